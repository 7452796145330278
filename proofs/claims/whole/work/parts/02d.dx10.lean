theorem dX10_init_0 : decode cX10_init 0 = .ok (.aload_n 0, 1) := by decide +kernel
theorem dX10_init_1 : decode cX10_init 1 = .ok (.invokespecial 1, 3) := by decide +kernel
theorem dX10_init_4 : decode cX10_init 4 = .ok (.aload_n 0, 1) := by decide +kernel
theorem dX10_init_5 : decode cX10_init 5 = .ok (.new 7, 3) := by decide +kernel
theorem dX10_init_8 : decode cX10_init 8 = .ok (.dup, 1) := by decide +kernel
theorem dX10_init_9 : decode cX10_init 9 = .ok (.invokespecial 9, 3) := by decide +kernel
theorem dX10_init_12 : decode cX10_init 12 = .ok (.putfield 10, 3) := by decide +kernel
theorem dX10_init_15 : decode cX10_init 15 = .ok (.new 16, 3) := by decide +kernel
theorem dX10_init_18 : decode cX10_init 18 = .ok (.dup, 1) := by decide +kernel
theorem dX10_init_19 : decode cX10_init 19 = .ok (.aload_n 0, 1) := by decide +kernel
theorem dX10_init_20 : decode cX10_init 20 = .ok (.getfield 10, 3) := by decide +kernel
theorem dX10_init_23 : decode cX10_init 23 = .ok (.invokespecial 18, 3) := by decide +kernel
theorem dX10_init_26 : decode cX10_init 26 = .ok (.astore_n 1, 1) := by decide +kernel
theorem dX10_init_27 : decode cX10_init 27 = .ok (.aload_n 0, 1) := by decide +kernel
theorem dX10_init_28 : decode cX10_init 28 = .ok (.new 21, 3) := by decide +kernel
theorem dX10_init_31 : decode cX10_init 31 = .ok (.dup, 1) := by decide +kernel
theorem dX10_init_32 : decode cX10_init 32 = .ok (.aload_n 0, 1) := by decide +kernel
theorem dX10_init_33 : decode cX10_init 33 = .ok (.getfield 10, 3) := by decide +kernel
theorem dX10_init_36 : decode cX10_init 36 = .ok (.aload_n 1, 1) := by decide +kernel
theorem dX10_init_37 : decode cX10_init 37 = .ok (.invokespecial 23, 3) := by decide +kernel
theorem dX10_init_40 : decode cX10_init 40 = .ok (.putfield 26, 3) := by decide +kernel
theorem dX10_init_43 : decode cX10_init 43 = .ok (.aload_n 0, 1) := by decide +kernel
theorem dX10_init_44 : decode cX10_init 44 = .ok (.new 30, 3) := by decide +kernel
theorem dX10_init_47 : decode cX10_init 47 = .ok (.dup, 1) := by decide +kernel
theorem dX10_init_48 : decode cX10_init 48 = .ok (.aload_n 0, 1) := by decide +kernel
theorem dX10_init_49 : decode cX10_init 49 = .ok (.getfield 10, 3) := by decide +kernel
theorem dX10_init_52 : decode cX10_init 52 = .ok (.aload_n 1, 1) := by decide +kernel
theorem dX10_init_53 : decode cX10_init 53 = .ok (.invokespecial 32, 3) := by decide +kernel
theorem dX10_init_56 : decode cX10_init 56 = .ok (.putfield 33, 3) := by decide +kernel
theorem dX10_init_59 : decode cX10_init 59 = .ok (.aload_n 0, 1) := by decide +kernel
theorem dX10_init_60 : decode cX10_init 60 = .ok (.new 37, 3) := by decide +kernel
theorem dX10_init_63 : decode cX10_init 63 = .ok (.dup, 1) := by decide +kernel
theorem dX10_init_64 : decode cX10_init 64 = .ok (.aload_n 0, 1) := by decide +kernel
theorem dX10_init_65 : decode cX10_init 65 = .ok (.getfield 10, 3) := by decide +kernel
theorem dX10_init_68 : decode cX10_init 68 = .ok (.aload_n 1, 1) := by decide +kernel
theorem dX10_init_69 : decode cX10_init 69 = .ok (.invokespecial 39, 3) := by decide +kernel
theorem dX10_init_72 : decode cX10_init 72 = .ok (.putfield 40, 3) := by decide +kernel
theorem dX10_init_75 : decode cX10_init 75 = .ok (.aload_n 0, 1) := by decide +kernel
theorem dX10_init_76 : decode cX10_init 76 = .ok (.new 44, 3) := by decide +kernel
theorem dX10_init_79 : decode cX10_init 79 = .ok (.dup, 1) := by decide +kernel
theorem dX10_init_80 : decode cX10_init 80 = .ok (.aload_n 0, 1) := by decide +kernel
theorem dX10_init_81 : decode cX10_init 81 = .ok (.getfield 10, 3) := by decide +kernel
theorem dX10_init_84 : decode cX10_init 84 = .ok (.invokespecial 46, 3) := by decide +kernel
theorem dX10_init_87 : decode cX10_init 87 = .ok (.putfield 47, 3) := by decide +kernel
theorem dX10_init_90 : decode cX10_init 90 = .ok (.aload_n 0, 1) := by decide +kernel
theorem dX10_init_91 : decode cX10_init 91 = .ok (.new 51, 3) := by decide +kernel
theorem dX10_init_94 : decode cX10_init 94 = .ok (.dup, 1) := by decide +kernel
theorem dX10_init_95 : decode cX10_init 95 = .ok (.aload_n 0, 1) := by decide +kernel
theorem dX10_init_96 : decode cX10_init 96 = .ok (.getfield 10, 3) := by decide +kernel
theorem dX10_init_99 : decode cX10_init 99 = .ok (.invokespecial 53, 3) := by decide +kernel
theorem dX10_init_102 : decode cX10_init 102 = .ok (.putfield 54, 3) := by decide +kernel
theorem dX10_init_105 : decode cX10_init 105 = .ok (.aload_n 0, 1) := by decide +kernel
theorem dX10_init_106 : decode cX10_init 106 = .ok (.new 58, 3) := by decide +kernel
theorem dX10_init_109 : decode cX10_init 109 = .ok (.dup, 1) := by decide +kernel
theorem dX10_init_110 : decode cX10_init 110 = .ok (.aload_n 0, 1) := by decide +kernel
theorem dX10_init_111 : decode cX10_init 111 = .ok (.getfield 10, 3) := by decide +kernel
theorem dX10_init_114 : decode cX10_init 114 = .ok (.invokespecial 60, 3) := by decide +kernel
theorem dX10_init_117 : decode cX10_init 117 = .ok (.putfield 61, 3) := by decide +kernel
theorem dX10_init_120 : decode cX10_init 120 = .ok (.aload_n 0, 1) := by decide +kernel
theorem dX10_init_121 : decode cX10_init 121 = .ok (.sipush 200, 3) := by decide +kernel
theorem dX10_init_124 : decode cX10_init 124 = .ok (.newarray .int, 2) := by decide +kernel
theorem dX10_init_126 : decode cX10_init 126 = .ok (.putfield 65, 3) := by decide +kernel
theorem dX10_init_129 : decode cX10_init 129 = .ok (.aload_n 0, 1) := by decide +kernel
theorem dX10_init_130 : decode cX10_init 130 = .ok (.bipush 6, 2) := by decide +kernel
theorem dX10_init_132 : decode cX10_init 132 = .ok (.newarray .int, 2) := by decide +kernel
theorem dX10_init_134 : decode cX10_init 134 = .ok (.putfield 69, 3) := by decide +kernel
theorem dX10_init_137 : decode cX10_init 137 = .ok (.return_, 1) := by decide +kernel
theorem dX10_part_0 : decode cX10_part 0 = .ok (.iload_n 1, 1) := by decide +kernel
theorem dX10_part_1 : decode cX10_part 1 = .ok (.ifCond .lt 8, 3) := by decide +kernel
theorem dX10_part_4 : decode cX10_part 4 = .ok (.iload_n 1, 1) := by decide +kernel
theorem dX10_part_5 : decode cX10_part 5 = .ok (.iconst 5, 1) := by decide +kernel
theorem dX10_part_6 : decode cX10_part 6 = .ok (.if_icmp .le 5, 3) := by decide +kernel
theorem dX10_part_9 : decode cX10_part 9 = .ok (.iconst (-1), 1) := by decide +kernel
theorem dX10_part_10 : decode cX10_part 10 = .ok (.ireturn, 1) := by decide +kernel
theorem dX10_part_11 : decode cX10_part 11 = .ok (.iload_n 1, 1) := by decide +kernel
theorem dX10_part_12 : decode cX10_part 12 = .ok (.iconst 4, 1) := by decide +kernel
theorem dX10_part_13 : decode cX10_part 13 = .ok (.if_icmp .ne 15, 3) := by decide +kernel
theorem dX10_part_16 : decode cX10_part 16 = .ok (.iload 4, 2) := by decide +kernel
theorem dX10_part_18 : decode cX10_part 18 = .ok (.iconst 1, 1) := by decide +kernel
theorem dX10_part_19 : decode cX10_part 19 = .ok (.if_icmp .lt 21, 3) := by decide +kernel
theorem dX10_part_22 : decode cX10_part 22 = .ok (.iload 4, 2) := by decide +kernel
theorem dX10_part_24 : decode cX10_part 24 = .ok (.iconst 4, 1) := by decide +kernel
theorem dX10_part_25 : decode cX10_part 25 = .ok (.if_icmp .gt 15, 3) := by decide +kernel
theorem dX10_part_28 : decode cX10_part 28 = .ok (.iload_n 1, 1) := by decide +kernel
theorem dX10_part_29 : decode cX10_part 29 = .ok (.iconst 5, 1) := by decide +kernel
theorem dX10_part_30 : decode cX10_part 30 = .ok (.if_icmp .ne 12, 3) := by decide +kernel
theorem dX10_part_33 : decode cX10_part 33 = .ok (.iload 4, 2) := by decide +kernel
theorem dX10_part_35 : decode cX10_part 35 = .ok (.bipush 12, 2) := by decide +kernel
theorem dX10_part_37 : decode cX10_part 37 = .ok (.if_icmp .le 5, 3) := by decide +kernel
theorem dX10_part_40 : decode cX10_part 40 = .ok (.iconst (-1), 1) := by decide +kernel
theorem dX10_part_41 : decode cX10_part 41 = .ok (.ireturn, 1) := by decide +kernel
theorem dX10_part_42 : decode cX10_part 42 = .ok (.aload_n 0, 1) := by decide +kernel
theorem dX10_part_43 : decode cX10_part 43 = .ok (.getfield 10, 3) := by decide +kernel
theorem dX10_part_46 : decode cX10_part 46 = .ok (.getfield 72, 3) := by decide +kernel
theorem dX10_part_49 : decode cX10_part 49 = .ok (.bipush 12, 2) := by decide +kernel
theorem dX10_part_51 : decode cX10_part 51 = .ok (.if_icmp .lt 6, 3) := by decide +kernel
theorem dX10_part_54 : decode cX10_part 54 = .ok (.bipush (-2), 2) := by decide +kernel
theorem dX10_part_56 : decode cX10_part 56 = .ok (.ireturn, 1) := by decide +kernel
theorem dX10_part_57 : decode cX10_part 57 = .ok (.iload_n 1, 1) := by decide +kernel
theorem dX10_part_58 : decode cX10_part 58 = .ok (.iconst 5, 1) := by decide +kernel
theorem dX10_part_59 : decode cX10_part 59 = .ok (.if_icmp .ne 14, 3) := by decide +kernel
theorem dX10_part_62 : decode cX10_part 62 = .ok (.iload 4, 2) := by decide +kernel
theorem dX10_part_64 : decode cX10_part 64 = .ok (.ifCond .ge 9, 3) := by decide +kernel
theorem dX10_part_67 : decode cX10_part 67 = .ok (.aload_n 0, 1) := by decide +kernel
theorem dX10_part_68 : decode cX10_part 68 = .ok (.iconst 5, 1) := by decide +kernel
theorem dX10_part_69 : decode cX10_part 69 = .ok (.invokevirtual 76, 3) := by decide +kernel
theorem dX10_part_72 : decode cX10_part 72 = .ok (.ireturn, 1) := by decide +kernel
theorem dX10_part_73 : decode cX10_part 73 = .ok (.aload_n 0, 1) := by decide +kernel
theorem dX10_part_74 : decode cX10_part 74 = .ok (.getfield 10, 3) := by decide +kernel
theorem dX10_part_77 : decode cX10_part 77 = .ok (.iload_n 1, 1) := by decide +kernel
theorem dX10_part_78 : decode cX10_part 78 = .ok (.lload_n 2, 1) := by decide +kernel
theorem dX10_part_79 : decode cX10_part 79 = .ok (.iload 4, 2) := by decide +kernel
theorem dX10_part_81 : decode cX10_part 81 = .ok (.invokevirtual 80, 3) := by decide +kernel
theorem dX10_part_84 : decode cX10_part 84 = .ok (.istore 5, 2) := by decide +kernel
theorem dX10_part_86 : decode cX10_part 86 = .ok (.aload_n 0, 1) := by decide +kernel
theorem dX10_part_87 : decode cX10_part 87 = .ok (.invokevirtual 84, 3) := by decide +kernel
theorem dX10_part_90 : decode cX10_part 90 = .ok (.iload 5, 2) := by decide +kernel
theorem dX10_part_92 : decode cX10_part 92 = .ok (.ireturn, 1) := by decide +kernel
theorem dX10_line_0 : decode cX10_line 0 = .ok (.aload_n 0, 1) := by decide +kernel
theorem dX10_line_1 : decode cX10_line 1 = .ok (.getfield 10, 3) := by decide +kernel
theorem dX10_line_4 : decode cX10_line 4 = .ok (.iload_n 1, 1) := by decide +kernel
theorem dX10_line_5 : decode cX10_line 5 = .ok (.invokevirtual 87, 3) := by decide +kernel
theorem dX10_line_8 : decode cX10_line 8 = .ok (.astore 5, 2) := by decide +kernel
theorem dX10_line_10 : decode cX10_line 10 = .ok (.aload_n 0, 1) := by decide +kernel
theorem dX10_line_11 : decode cX10_line 11 = .ok (.getfield 10, 3) := by decide +kernel
theorem dX10_line_14 : decode cX10_line 14 = .ok (.iload_n 3, 1) := by decide +kernel
theorem dX10_line_15 : decode cX10_line 15 = .ok (.invokevirtual 87, 3) := by decide +kernel
theorem dX10_line_18 : decode cX10_line 18 = .ok (.astore 6, 2) := by decide +kernel
theorem dX10_line_20 : decode cX10_line 20 = .ok (.aload 5, 2) := by decide +kernel
theorem dX10_line_22 : decode cX10_line 22 = .ok (.ifnull 8, 3) := by decide +kernel
theorem dX10_line_25 : decode cX10_line 25 = .ok (.aload 6, 2) := by decide +kernel
theorem dX10_line_27 : decode cX10_line 27 = .ok (.ifnonnull 5, 3) := by decide +kernel
theorem dX10_line_30 : decode cX10_line 30 = .ok (.iconst (-1), 1) := by decide +kernel
theorem dX10_line_31 : decode cX10_line 31 = .ok (.ireturn, 1) := by decide +kernel
theorem dX10_line_32 : decode cX10_line 32 = .ok (.iload_n 2, 1) := by decide +kernel
theorem dX10_line_33 : decode cX10_line 33 = .ok (.iconst 1, 1) := by decide +kernel
theorem dX10_line_34 : decode cX10_line 34 = .ok (.if_icmp .lt 22, 3) := by decide +kernel
theorem dX10_line_37 : decode cX10_line 37 = .ok (.iload_n 2, 1) := by decide +kernel
theorem dX10_line_38 : decode cX10_line 38 = .ok (.bipush 50, 2) := by decide +kernel
theorem dX10_line_40 : decode cX10_line 40 = .ok (.if_icmp .gt 16, 3) := by decide +kernel
theorem dX10_line_43 : decode cX10_line 43 = .ok (.iload 4, 2) := by decide +kernel
theorem dX10_line_45 : decode cX10_line 45 = .ok (.iconst 1, 1) := by decide +kernel
theorem dX10_line_46 : decode cX10_line 46 = .ok (.if_icmp .lt 10, 3) := by decide +kernel
theorem dX10_line_49 : decode cX10_line 49 = .ok (.iload 4, 2) := by decide +kernel
theorem dX10_line_51 : decode cX10_line 51 = .ok (.bipush 50, 2) := by decide +kernel
theorem dX10_line_53 : decode cX10_line 53 = .ok (.if_icmp .le 5, 3) := by decide +kernel
theorem dX10_line_56 : decode cX10_line 56 = .ok (.iconst (-1), 1) := by decide +kernel
theorem dX10_line_57 : decode cX10_line 57 = .ok (.ireturn, 1) := by decide +kernel
theorem dX10_line_58 : decode cX10_line 58 = .ok (.aload_n 0, 1) := by decide +kernel
theorem dX10_line_59 : decode cX10_line 59 = .ok (.getfield 10, 3) := by decide +kernel
theorem dX10_line_62 : decode cX10_line 62 = .ok (.getfield 91, 3) := by decide +kernel
theorem dX10_line_65 : decode cX10_line 65 = .ok (.bipush 20, 2) := by decide +kernel
theorem dX10_line_67 : decode cX10_line 67 = .ok (.if_icmp .lt 6, 3) := by decide +kernel
theorem dX10_line_70 : decode cX10_line 70 = .ok (.bipush (-2), 2) := by decide +kernel
theorem dX10_line_72 : decode cX10_line 72 = .ok (.ireturn, 1) := by decide +kernel
theorem dX10_line_73 : decode cX10_line 73 = .ok (.aload_n 0, 1) := by decide +kernel
theorem dX10_line_74 : decode cX10_line 74 = .ok (.getfield 10, 3) := by decide +kernel
theorem dX10_line_77 : decode cX10_line 77 = .ok (.aload 5, 2) := by decide +kernel
theorem dX10_line_79 : decode cX10_line 79 = .ok (.iload_n 2, 1) := by decide +kernel
theorem dX10_line_80 : decode cX10_line 80 = .ok (.aload 6, 2) := by decide +kernel
theorem dX10_line_82 : decode cX10_line 82 = .ok (.iload 4, 2) := by decide +kernel
theorem dX10_line_84 : decode cX10_line 84 = .ok (.invokevirtual 94, 3) := by decide +kernel
theorem dX10_line_87 : decode cX10_line 87 = .ok (.istore 7, 2) := by decide +kernel
theorem dX10_line_89 : decode cX10_line 89 = .ok (.aload_n 0, 1) := by decide +kernel
theorem dX10_line_90 : decode cX10_line 90 = .ok (.invokevirtual 84, 3) := by decide +kernel
theorem dX10_line_93 : decode cX10_line 93 = .ok (.iload 7, 2) := by decide +kernel
theorem dX10_line_95 : decode cX10_line 95 = .ok (.ireturn, 1) := by decide +kernel
theorem dX10_count_0 : decode cX10_count 0 = .ok (.aload_n 0, 1) := by decide +kernel
theorem dX10_count_1 : decode cX10_count 1 = .ok (.getfield 10, 3) := by decide +kernel
theorem dX10_count_4 : decode cX10_count 4 = .ok (.iload_n 1, 1) := by decide +kernel
theorem dX10_count_5 : decode cX10_count 5 = .ok (.invokevirtual 98, 3) := by decide +kernel
theorem dX10_count_8 : decode cX10_count 8 = .ok (.astore 5, 2) := by decide +kernel
theorem dX10_count_10 : decode cX10_count 10 = .ok (.aload 5, 2) := by decide +kernel
theorem dX10_count_12 : decode cX10_count 12 = .ok (.ifnull 15, 3) := by decide +kernel
theorem dX10_count_15 : decode cX10_count 15 = .ok (.iload 4, 2) := by decide +kernel
theorem dX10_count_17 : decode cX10_count 17 = .ok (.ifCond .lt 10, 3) := by decide +kernel
theorem dX10_count_20 : decode cX10_count 20 = .ok (.iload 4, 2) := by decide +kernel
theorem dX10_count_22 : decode cX10_count 22 = .ok (.bipush 50, 2) := by decide +kernel
theorem dX10_count_24 : decode cX10_count 24 = .ok (.if_icmp .le 5, 3) := by decide +kernel
theorem dX10_count_27 : decode cX10_count 27 = .ok (.iconst (-1), 1) := by decide +kernel
theorem dX10_count_28 : decode cX10_count 28 = .ok (.ireturn, 1) := by decide +kernel
theorem dX10_count_29 : decode cX10_count 29 = .ok (.iload_n 2, 1) := by decide +kernel
theorem dX10_count_30 : decode cX10_count 30 = .ok (.ifCond .eq 11, 3) := by decide +kernel
theorem dX10_count_33 : decode cX10_count 33 = .ok (.aload 5, 2) := by decide +kernel
theorem dX10_count_35 : decode cX10_count 35 = .ok (.getfield 102, 3) := by decide +kernel
theorem dX10_count_38 : decode cX10_count 38 = .ok (.goto 8, 3) := by decide +kernel
theorem dX10_count_41 : decode cX10_count 41 = .ok (.aload 5, 2) := by decide +kernel
theorem dX10_count_43 : decode cX10_count 43 = .ok (.getfield 108, 3) := by decide +kernel
theorem dX10_count_46 : decode cX10_count 46 = .ok (.astore 6, 2) := by decide +kernel
theorem dX10_count_48 : decode cX10_count 48 = .ok (.aload 6, 2) := by decide +kernel
theorem dX10_count_50 : decode cX10_count 50 = .ok (.getfield 111, 3) := by decide +kernel
theorem dX10_count_53 : decode cX10_count 53 = .ok (.iconst 4, 1) := by decide +kernel
theorem dX10_count_54 : decode cX10_count 54 = .ok (.if_icmp .eq 9, 3) := by decide +kernel
theorem dX10_count_57 : decode cX10_count 57 = .ok (.aload_n 0, 1) := by decide +kernel
theorem dX10_count_58 : decode cX10_count 58 = .ok (.iconst 3, 1) := by decide +kernel
theorem dX10_count_59 : decode cX10_count 59 = .ok (.invokevirtual 76, 3) := by decide +kernel
theorem dX10_count_62 : decode cX10_count 62 = .ok (.ireturn, 1) := by decide +kernel
theorem dX10_count_63 : decode cX10_count 63 = .ok (.iload_n 2, 1) := by decide +kernel
theorem dX10_count_64 : decode cX10_count 64 = .ok (.ifCond .eq 11, 3) := by decide +kernel
theorem dX10_count_67 : decode cX10_count 67 = .ok (.aload 5, 2) := by decide +kernel
theorem dX10_count_69 : decode cX10_count 69 = .ok (.getfield 116, 3) := by decide +kernel
theorem dX10_count_72 : decode cX10_count 72 = .ok (.goto 8, 3) := by decide +kernel
theorem dX10_count_75 : decode cX10_count 75 = .ok (.aload 5, 2) := by decide +kernel
theorem dX10_count_77 : decode cX10_count 77 = .ok (.getfield 119, 3) := by decide +kernel
theorem dX10_count_80 : decode cX10_count 80 = .ok (.astore 7, 2) := by decide +kernel
theorem dX10_count_82 : decode cX10_count 82 = .ok (.iload_n 3, 1) := by decide +kernel
theorem dX10_count_83 : decode cX10_count 83 = .ok (.ifCond .lt 10, 3) := by decide +kernel
theorem dX10_count_86 : decode cX10_count 86 = .ok (.iload_n 3, 1) := by decide +kernel
theorem dX10_count_87 : decode cX10_count 87 = .ok (.aload 7, 2) := by decide +kernel
theorem dX10_count_89 : decode cX10_count 89 = .ok (.arraylength, 1) := by decide +kernel
theorem dX10_count_90 : decode cX10_count 90 = .ok (.if_icmp .lt 9, 3) := by decide +kernel
theorem dX10_count_93 : decode cX10_count 93 = .ok (.aload_n 0, 1) := by decide +kernel
theorem dX10_count_94 : decode cX10_count 94 = .ok (.iconst 2, 1) := by decide +kernel
theorem dX10_count_95 : decode cX10_count 95 = .ok (.invokevirtual 76, 3) := by decide +kernel
theorem dX10_count_98 : decode cX10_count 98 = .ok (.ireturn, 1) := by decide +kernel
theorem dX10_count_99 : decode cX10_count 99 = .ok (.aload 7, 2) := by decide +kernel
theorem dX10_count_101 : decode cX10_count 101 = .ok (.iload_n 3, 1) := by decide +kernel
theorem dX10_count_102 : decode cX10_count 102 = .ok (.iaload, 1) := by decide +kernel
theorem dX10_count_103 : decode cX10_count 103 = .ok (.istore 8, 2) := by decide +kernel
theorem dX10_count_105 : decode cX10_count 105 = .ok (.aload 7, 2) := by decide +kernel
theorem dX10_count_107 : decode cX10_count 107 = .ok (.iload_n 3, 1) := by decide +kernel
theorem dX10_count_108 : decode cX10_count 108 = .ok (.iload 4, 2) := by decide +kernel
theorem dX10_count_110 : decode cX10_count 110 = .ok (.iastore, 1) := by decide +kernel
theorem dX10_count_111 : decode cX10_count 111 = .ok (.aload_n 0, 1) := by decide +kernel
theorem dX10_count_112 : decode cX10_count 112 = .ok (.invokevirtual 84, 3) := by decide +kernel
theorem dX10_count_115 : decode cX10_count 115 = .ok (.iload 8, 2) := by decide +kernel
theorem dX10_count_117 : decode cX10_count 117 = .ok (.ireturn, 1) := by decide +kernel
theorem dX10_first_0 : decode cX10_first 0 = .ok (.aload_n 0, 1) := by decide +kernel
theorem dX10_first_1 : decode cX10_first 1 = .ok (.getfield 10, 3) := by decide +kernel
theorem dX10_first_4 : decode cX10_first 4 = .ok (.iload_n 1, 1) := by decide +kernel
theorem dX10_first_5 : decode cX10_first 5 = .ok (.invokevirtual 98, 3) := by decide +kernel
theorem dX10_first_8 : decode cX10_first 8 = .ok (.astore_n 3, 1) := by decide +kernel
theorem dX10_first_9 : decode cX10_first 9 = .ok (.aload_n 3, 1) := by decide +kernel
theorem dX10_first_10 : decode cX10_first 10 = .ok (.ifnull 13, 3) := by decide +kernel
theorem dX10_first_13 : decode cX10_first 13 = .ok (.iload_n 2, 1) := by decide +kernel
theorem dX10_first_14 : decode cX10_first 14 = .ok (.ifCond .lt 9, 3) := by decide +kernel
theorem dX10_first_17 : decode cX10_first 17 = .ok (.iload_n 2, 1) := by decide +kernel
theorem dX10_first_18 : decode cX10_first 18 = .ok (.bipush 60, 2) := by decide +kernel
theorem dX10_first_20 : decode cX10_first 20 = .ok (.if_icmp .le 5, 3) := by decide +kernel
theorem dX10_first_23 : decode cX10_first 23 = .ok (.iconst (-1), 1) := by decide +kernel
theorem dX10_first_24 : decode cX10_first 24 = .ok (.ireturn, 1) := by decide +kernel
theorem dX10_first_25 : decode cX10_first 25 = .ok (.aload_n 3, 1) := by decide +kernel
theorem dX10_first_26 : decode cX10_first 26 = .ok (.getfield 122, 3) := by decide +kernel
theorem dX10_first_29 : decode cX10_first 29 = .ok (.lconst 0, 1) := by decide +kernel
theorem dX10_first_30 : decode cX10_first 30 = .ok (.invokestatic 126, 3) := by decide +kernel
theorem dX10_first_33 : decode cX10_first 33 = .ok (.aload_n 3, 1) := by decide +kernel
theorem dX10_first_34 : decode cX10_first 34 = .ok (.iload_n 2, 1) := by decide +kernel
theorem dX10_first_35 : decode cX10_first 35 = .ok (.putfield 132, 3) := by decide +kernel
theorem dX10_first_38 : decode cX10_first 38 = .ok (.aload_n 0, 1) := by decide +kernel
theorem dX10_first_39 : decode cX10_first 39 = .ok (.invokevirtual 84, 3) := by decide +kernel
theorem dX10_first_42 : decode cX10_first 42 = .ok (.iload_n 2, 1) := by decide +kernel
theorem dX10_first_43 : decode cX10_first 43 = .ok (.ireturn, 1) := by decide +kernel
theorem dX10_thing_0 : decode cX10_thing 0 = .ok (.aload_n 0, 1) := by decide +kernel
theorem dX10_thing_1 : decode cX10_thing 1 = .ok (.getfield 10, 3) := by decide +kernel
theorem dX10_thing_4 : decode cX10_thing 4 = .ok (.iload_n 1, 1) := by decide +kernel
theorem dX10_thing_5 : decode cX10_thing 5 = .ok (.invokevirtual 98, 3) := by decide +kernel
theorem dX10_thing_8 : decode cX10_thing 8 = .ok (.astore 5, 2) := by decide +kernel
theorem dX10_thing_10 : decode cX10_thing 10 = .ok (.aload 5, 2) := by decide +kernel
theorem dX10_thing_12 : decode cX10_thing 12 = .ok (.ifnonnull 5, 3) := by decide +kernel
theorem dX10_thing_15 : decode cX10_thing 15 = .ok (.iconst (-1), 1) := by decide +kernel
theorem dX10_thing_16 : decode cX10_thing 16 = .ok (.ireturn, 1) := by decide +kernel
theorem dX10_thing_17 : decode cX10_thing 17 = .ok (.iload_n 2, 1) := by decide +kernel
theorem dX10_thing_18 : decode cX10_thing 18 = .ok (.ifCond .lt 22, 3) := by decide +kernel
theorem dX10_thing_21 : decode cX10_thing 21 = .ok (.iload_n 2, 1) := by decide +kernel
theorem dX10_thing_22 : decode cX10_thing 22 = .ok (.aload 5, 2) := by decide +kernel
theorem dX10_thing_24 : decode cX10_thing 24 = .ok (.getfield 132, 3) := by decide +kernel
theorem dX10_thing_27 : decode cX10_thing 27 = .ok (.if_icmp .ge 13, 3) := by decide +kernel
theorem dX10_thing_30 : decode cX10_thing 30 = .ok (.iload_n 2, 1) := by decide +kernel
theorem dX10_thing_31 : decode cX10_thing 31 = .ok (.aload 5, 2) := by decide +kernel
theorem dX10_thing_33 : decode cX10_thing 33 = .ok (.getfield 122, 3) := by decide +kernel
theorem dX10_thing_36 : decode cX10_thing 36 = .ok (.arraylength, 1) := by decide +kernel
theorem dX10_thing_37 : decode cX10_thing 37 = .ok (.if_icmp .lt 9, 3) := by decide +kernel
theorem dX10_thing_40 : decode cX10_thing 40 = .ok (.aload_n 0, 1) := by decide +kernel
theorem dX10_thing_41 : decode cX10_thing 41 = .ok (.iconst 2, 1) := by decide +kernel
theorem dX10_thing_42 : decode cX10_thing 42 = .ok (.invokevirtual 76, 3) := by decide +kernel
theorem dX10_thing_45 : decode cX10_thing 45 = .ok (.ireturn, 1) := by decide +kernel
theorem dX10_thing_46 : decode cX10_thing 46 = .ok (.aload 5, 2) := by decide +kernel
theorem dX10_thing_48 : decode cX10_thing 48 = .ok (.getfield 122, 3) := by decide +kernel
theorem dX10_thing_51 : decode cX10_thing 51 = .ok (.iload_n 2, 1) := by decide +kernel
theorem dX10_thing_52 : decode cX10_thing 52 = .ok (.lload_n 3, 1) := by decide +kernel
theorem dX10_thing_53 : decode cX10_thing 53 = .ok (.lastore, 1) := by decide +kernel
theorem dX10_thing_54 : decode cX10_thing 54 = .ok (.aload_n 0, 1) := by decide +kernel
theorem dX10_thing_55 : decode cX10_thing 55 = .ok (.invokevirtual 135, 3) := by decide +kernel
theorem dX10_thing_58 : decode cX10_thing 58 = .ok (.iconst 1, 1) := by decide +kernel
theorem dX10_thing_59 : decode cX10_thing 59 = .ok (.ireturn, 1) := by decide +kernel
theorem dX10_row_0 : decode cX10_row 0 = .ok (.aload_n 0, 1) := by decide +kernel
theorem dX10_row_1 : decode cX10_row 1 = .ok (.getfield 10, 3) := by decide +kernel
theorem dX10_row_4 : decode cX10_row 4 = .ok (.iload_n 1, 1) := by decide +kernel
theorem dX10_row_5 : decode cX10_row 5 = .ok (.invokevirtual 87, 3) := by decide +kernel
theorem dX10_row_8 : decode cX10_row 8 = .ok (.astore 5, 2) := by decide +kernel
theorem dX10_row_10 : decode cX10_row 10 = .ok (.aload 5, 2) := by decide +kernel
theorem dX10_row_12 : decode cX10_row 12 = .ok (.ifnonnull 5, 3) := by decide +kernel
theorem dX10_row_15 : decode cX10_row 15 = .ok (.iconst (-1), 1) := by decide +kernel
theorem dX10_row_16 : decode cX10_row 16 = .ok (.ireturn, 1) := by decide +kernel
theorem dX10_row_17 : decode cX10_row 17 = .ok (.aload 5, 2) := by decide +kernel
theorem dX10_row_19 : decode cX10_row 19 = .ok (.getfield 111, 3) := by decide +kernel
theorem dX10_row_22 : decode cX10_row 22 = .ok (.iconst 5, 1) := by decide +kernel
theorem dX10_row_23 : decode cX10_row 23 = .ok (.if_icmp .eq 9, 3) := by decide +kernel
theorem dX10_row_26 : decode cX10_row 26 = .ok (.aload_n 0, 1) := by decide +kernel
theorem dX10_row_27 : decode cX10_row 27 = .ok (.iconst 3, 1) := by decide +kernel
theorem dX10_row_28 : decode cX10_row 28 = .ok (.invokevirtual 76, 3) := by decide +kernel
theorem dX10_row_31 : decode cX10_row 31 = .ok (.ireturn, 1) := by decide +kernel
theorem dX10_row_32 : decode cX10_row 32 = .ok (.aload 5, 2) := by decide +kernel
theorem dX10_row_34 : decode cX10_row 34 = .ok (.getfield 138, 3) := by decide +kernel
theorem dX10_row_37 : decode cX10_row 37 = .ok (.ifnonnull 9, 3) := by decide +kernel
theorem dX10_row_40 : decode cX10_row 40 = .ok (.aload_n 0, 1) := by decide +kernel
theorem dX10_row_41 : decode cX10_row 41 = .ok (.iconst 1, 1) := by decide +kernel
theorem dX10_row_42 : decode cX10_row 42 = .ok (.invokevirtual 76, 3) := by decide +kernel
theorem dX10_row_45 : decode cX10_row 45 = .ok (.ireturn, 1) := by decide +kernel
theorem dX10_row_46 : decode cX10_row 46 = .ok (.iload_n 2, 1) := by decide +kernel
theorem dX10_row_47 : decode cX10_row 47 = .ok (.ifCond .lt 13, 3) := by decide +kernel
theorem dX10_row_50 : decode cX10_row 50 = .ok (.iload_n 2, 1) := by decide +kernel
theorem dX10_row_51 : decode cX10_row 51 = .ok (.aload 5, 2) := by decide +kernel
theorem dX10_row_53 : decode cX10_row 53 = .ok (.getfield 138, 3) := by decide +kernel
theorem dX10_row_56 : decode cX10_row 56 = .ok (.arraylength, 1) := by decide +kernel
theorem dX10_row_57 : decode cX10_row 57 = .ok (.if_icmp .lt 9, 3) := by decide +kernel
theorem dX10_row_60 : decode cX10_row 60 = .ok (.aload_n 0, 1) := by decide +kernel
theorem dX10_row_61 : decode cX10_row 61 = .ok (.iconst 2, 1) := by decide +kernel
theorem dX10_row_62 : decode cX10_row 62 = .ok (.invokevirtual 76, 3) := by decide +kernel
theorem dX10_row_65 : decode cX10_row 65 = .ok (.ireturn, 1) := by decide +kernel
theorem dX10_row_66 : decode cX10_row 66 = .ok (.aload 5, 2) := by decide +kernel
theorem dX10_row_68 : decode cX10_row 68 = .ok (.getfield 138, 3) := by decide +kernel
theorem dX10_row_71 : decode cX10_row 71 = .ok (.iload_n 2, 1) := by decide +kernel
theorem dX10_row_72 : decode cX10_row 72 = .ok (.lload_n 3, 1) := by decide +kernel
theorem dX10_row_73 : decode cX10_row 73 = .ok (.lastore, 1) := by decide +kernel
theorem dX10_row_74 : decode cX10_row 74 = .ok (.aload_n 0, 1) := by decide +kernel
theorem dX10_row_75 : decode cX10_row 75 = .ok (.invokevirtual 135, 3) := by decide +kernel
theorem dX10_row_78 : decode cX10_row 78 = .ok (.iconst 1, 1) := by decide +kernel
theorem dX10_row_79 : decode cX10_row 79 = .ok (.ireturn, 1) := by decide +kernel
theorem dX10_copy_0 : decode cX10_copy 0 = .ok (.aload_n 0, 1) := by decide +kernel
theorem dX10_copy_1 : decode cX10_copy 1 = .ok (.getfield 10, 3) := by decide +kernel
theorem dX10_copy_4 : decode cX10_copy 4 = .ok (.iload_n 1, 1) := by decide +kernel
theorem dX10_copy_5 : decode cX10_copy 5 = .ok (.invokevirtual 87, 3) := by decide +kernel
theorem dX10_copy_8 : decode cX10_copy 8 = .ok (.astore 6, 2) := by decide +kernel
theorem dX10_copy_10 : decode cX10_copy 10 = .ok (.aload_n 0, 1) := by decide +kernel
theorem dX10_copy_11 : decode cX10_copy 11 = .ok (.getfield 10, 3) := by decide +kernel
theorem dX10_copy_14 : decode cX10_copy 14 = .ok (.iload_n 3, 1) := by decide +kernel
theorem dX10_copy_15 : decode cX10_copy 15 = .ok (.invokevirtual 87, 3) := by decide +kernel
theorem dX10_copy_18 : decode cX10_copy 18 = .ok (.astore 7, 2) := by decide +kernel
theorem dX10_copy_20 : decode cX10_copy 20 = .ok (.aload 6, 2) := by decide +kernel
theorem dX10_copy_22 : decode cX10_copy 22 = .ok (.ifnull 8, 3) := by decide +kernel
theorem dX10_copy_25 : decode cX10_copy 25 = .ok (.aload 7, 2) := by decide +kernel
theorem dX10_copy_27 : decode cX10_copy 27 = .ok (.ifnonnull 5, 3) := by decide +kernel
theorem dX10_copy_30 : decode cX10_copy 30 = .ok (.iconst (-1), 1) := by decide +kernel
theorem dX10_copy_31 : decode cX10_copy 31 = .ok (.ireturn, 1) := by decide +kernel
theorem dX10_copy_32 : decode cX10_copy 32 = .ok (.aload 6, 2) := by decide +kernel
theorem dX10_copy_34 : decode cX10_copy 34 = .ok (.getfield 111, 3) := by decide +kernel
theorem dX10_copy_37 : decode cX10_copy 37 = .ok (.iconst 5, 1) := by decide +kernel
theorem dX10_copy_38 : decode cX10_copy 38 = .ok (.if_icmp .ne 12, 3) := by decide +kernel
theorem dX10_copy_41 : decode cX10_copy 41 = .ok (.aload 7, 2) := by decide +kernel
theorem dX10_copy_43 : decode cX10_copy 43 = .ok (.getfield 111, 3) := by decide +kernel
theorem dX10_copy_46 : decode cX10_copy 46 = .ok (.iconst 5, 1) := by decide +kernel
theorem dX10_copy_47 : decode cX10_copy 47 = .ok (.if_icmp .eq 9, 3) := by decide +kernel
theorem dX10_copy_50 : decode cX10_copy 50 = .ok (.aload_n 0, 1) := by decide +kernel
theorem dX10_copy_51 : decode cX10_copy 51 = .ok (.iconst 3, 1) := by decide +kernel
theorem dX10_copy_52 : decode cX10_copy 52 = .ok (.invokevirtual 76, 3) := by decide +kernel
theorem dX10_copy_55 : decode cX10_copy 55 = .ok (.ireturn, 1) := by decide +kernel
theorem dX10_copy_56 : decode cX10_copy 56 = .ok (.aload 6, 2) := by decide +kernel
theorem dX10_copy_58 : decode cX10_copy 58 = .ok (.getfield 138, 3) := by decide +kernel
theorem dX10_copy_61 : decode cX10_copy 61 = .ok (.ifnull 11, 3) := by decide +kernel
theorem dX10_copy_64 : decode cX10_copy 64 = .ok (.aload 7, 2) := by decide +kernel
theorem dX10_copy_66 : decode cX10_copy 66 = .ok (.getfield 138, 3) := by decide +kernel
theorem dX10_copy_69 : decode cX10_copy 69 = .ok (.ifnonnull 9, 3) := by decide +kernel
theorem dX10_copy_72 : decode cX10_copy 72 = .ok (.aload_n 0, 1) := by decide +kernel
theorem dX10_copy_73 : decode cX10_copy 73 = .ok (.iconst 1, 1) := by decide +kernel
theorem dX10_copy_74 : decode cX10_copy 74 = .ok (.invokevirtual 76, 3) := by decide +kernel
theorem dX10_copy_77 : decode cX10_copy 77 = .ok (.ireturn, 1) := by decide +kernel
theorem dX10_copy_78 : decode cX10_copy 78 = .ok (.aload 6, 2) := by decide +kernel
theorem dX10_copy_80 : decode cX10_copy 80 = .ok (.getfield 138, 3) := by decide +kernel
theorem dX10_copy_83 : decode cX10_copy 83 = .ok (.iload_n 2, 1) := by decide +kernel
theorem dX10_copy_84 : decode cX10_copy 84 = .ok (.iload 5, 2) := by decide +kernel
theorem dX10_copy_86 : decode cX10_copy 86 = .ok (.invokestatic 141, 3) := by decide +kernel
theorem dX10_copy_89 : decode cX10_copy 89 = .ok (.ifCond .eq 18, 3) := by decide +kernel
theorem dX10_copy_92 : decode cX10_copy 92 = .ok (.aload 7, 2) := by decide +kernel
theorem dX10_copy_94 : decode cX10_copy 94 = .ok (.getfield 138, 3) := by decide +kernel
theorem dX10_copy_97 : decode cX10_copy 97 = .ok (.iload 4, 2) := by decide +kernel
theorem dX10_copy_99 : decode cX10_copy 99 = .ok (.iload 5, 2) := by decide +kernel
theorem dX10_copy_101 : decode cX10_copy 101 = .ok (.invokestatic 141, 3) := by decide +kernel
theorem dX10_copy_104 : decode cX10_copy 104 = .ok (.ifCond .ne 9, 3) := by decide +kernel
theorem dX10_copy_107 : decode cX10_copy 107 = .ok (.aload_n 0, 1) := by decide +kernel
theorem dX10_copy_108 : decode cX10_copy 108 = .ok (.iconst 2, 1) := by decide +kernel
theorem dX10_copy_109 : decode cX10_copy 109 = .ok (.invokevirtual 76, 3) := by decide +kernel
theorem dX10_copy_112 : decode cX10_copy 112 = .ok (.ireturn, 1) := by decide +kernel
theorem dX10_copy_113 : decode cX10_copy 113 = .ok (.aload 6, 2) := by decide +kernel
theorem dX10_copy_115 : decode cX10_copy 115 = .ok (.getfield 138, 3) := by decide +kernel
theorem dX10_copy_118 : decode cX10_copy 118 = .ok (.iload_n 2, 1) := by decide +kernel
theorem dX10_copy_119 : decode cX10_copy 119 = .ok (.aload 7, 2) := by decide +kernel
theorem dX10_copy_121 : decode cX10_copy 121 = .ok (.getfield 138, 3) := by decide +kernel
theorem dX10_copy_124 : decode cX10_copy 124 = .ok (.iload 4, 2) := by decide +kernel
theorem dX10_copy_126 : decode cX10_copy 126 = .ok (.iload 5, 2) := by decide +kernel
theorem dX10_copy_128 : decode cX10_copy 128 = .ok (.invokestatic 145, 3) := by decide +kernel
theorem dX10_copy_131 : decode cX10_copy 131 = .ok (.aload_n 0, 1) := by decide +kernel
theorem dX10_copy_132 : decode cX10_copy 132 = .ok (.invokevirtual 135, 3) := by decide +kernel
theorem dX10_copy_135 : decode cX10_copy 135 = .ok (.iconst 1, 1) := by decide +kernel
theorem dX10_copy_136 : decode cX10_copy 136 = .ok (.ireturn, 1) := by decide +kernel
theorem dX10_tear_0 : decode cX10_tear 0 = .ok (.aload_n 0, 1) := by decide +kernel
theorem dX10_tear_1 : decode cX10_tear 1 = .ok (.getfield 10, 3) := by decide +kernel
theorem dX10_tear_4 : decode cX10_tear 4 = .ok (.iload_n 1, 1) := by decide +kernel
theorem dX10_tear_5 : decode cX10_tear 5 = .ok (.invokevirtual 87, 3) := by decide +kernel
theorem dX10_tear_8 : decode cX10_tear 8 = .ok (.astore_n 2, 1) := by decide +kernel
theorem dX10_tear_9 : decode cX10_tear 9 = .ok (.aload_n 2, 1) := by decide +kernel
theorem dX10_tear_10 : decode cX10_tear 10 = .ok (.ifnonnull 5, 3) := by decide +kernel
theorem dX10_tear_13 : decode cX10_tear 13 = .ok (.iconst (-1), 1) := by decide +kernel
theorem dX10_tear_14 : decode cX10_tear 14 = .ok (.ireturn, 1) := by decide +kernel
theorem dX10_tear_15 : decode cX10_tear 15 = .ok (.aload_n 2, 1) := by decide +kernel
theorem dX10_tear_16 : decode cX10_tear 16 = .ok (.getfield 111, 3) := by decide +kernel
theorem dX10_tear_19 : decode cX10_tear 19 = .ok (.iconst 5, 1) := by decide +kernel
theorem dX10_tear_20 : decode cX10_tear 20 = .ok (.if_icmp .eq 9, 3) := by decide +kernel
theorem dX10_tear_23 : decode cX10_tear 23 = .ok (.aload_n 0, 1) := by decide +kernel
theorem dX10_tear_24 : decode cX10_tear 24 = .ok (.iconst 3, 1) := by decide +kernel
theorem dX10_tear_25 : decode cX10_tear 25 = .ok (.invokevirtual 76, 3) := by decide +kernel
theorem dX10_tear_28 : decode cX10_tear 28 = .ok (.ireturn, 1) := by decide +kernel
theorem dX10_tear_29 : decode cX10_tear 29 = .ok (.aload_n 2, 1) := by decide +kernel
theorem dX10_tear_30 : decode cX10_tear 30 = .ok (.getfield 138, 3) := by decide +kernel
theorem dX10_tear_33 : decode cX10_tear 33 = .ok (.ifnonnull 9, 3) := by decide +kernel
theorem dX10_tear_36 : decode cX10_tear 36 = .ok (.aload_n 0, 1) := by decide +kernel
theorem dX10_tear_37 : decode cX10_tear 37 = .ok (.iconst 1, 1) := by decide +kernel
theorem dX10_tear_38 : decode cX10_tear 38 = .ok (.invokevirtual 76, 3) := by decide +kernel
theorem dX10_tear_41 : decode cX10_tear 41 = .ok (.ireturn, 1) := by decide +kernel
theorem dX10_tear_42 : decode cX10_tear 42 = .ok (.aload_n 2, 1) := by decide +kernel
theorem dX10_tear_43 : decode cX10_tear 43 = .ok (.aconst_null, 1) := by decide +kernel
theorem dX10_tear_44 : decode cX10_tear 44 = .ok (.putfield 138, 3) := by decide +kernel
theorem dX10_tear_47 : decode cX10_tear 47 = .ok (.aload_n 2, 1) := by decide +kernel
theorem dX10_tear_48 : decode cX10_tear 48 = .ok (.aconst_null, 1) := by decide +kernel
theorem dX10_tear_49 : decode cX10_tear 49 = .ok (.putfield 151, 3) := by decide +kernel
theorem dX10_tear_52 : decode cX10_tear 52 = .ok (.aload_n 0, 1) := by decide +kernel
theorem dX10_tear_53 : decode cX10_tear 53 = .ok (.invokevirtual 135, 3) := by decide +kernel
theorem dX10_tear_56 : decode cX10_tear 56 = .ok (.iconst 1, 1) := by decide +kernel
theorem dX10_tear_57 : decode cX10_tear 57 = .ok (.ireturn, 1) := by decide +kernel
theorem dX10_told_0 : decode cX10_told 0 = .ok (.aload_n 0, 1) := by decide +kernel
theorem dX10_told_1 : decode cX10_told 1 = .ok (.getfield 10, 3) := by decide +kernel
theorem dX10_told_4 : decode cX10_told 4 = .ok (.iload_n 1, 1) := by decide +kernel
theorem dX10_told_5 : decode cX10_told 5 = .ok (.invokevirtual 87, 3) := by decide +kernel
theorem dX10_told_8 : decode cX10_told 8 = .ok (.astore_n 3, 1) := by decide +kernel
theorem dX10_told_9 : decode cX10_told 9 = .ok (.aload_n 3, 1) := by decide +kernel
theorem dX10_told_10 : decode cX10_told 10 = .ok (.ifnull 12, 3) := by decide +kernel
theorem dX10_told_13 : decode cX10_told 13 = .ok (.iload_n 2, 1) := by decide +kernel
theorem dX10_told_14 : decode cX10_told 14 = .ok (.ifCond .lt 8, 3) := by decide +kernel
theorem dX10_told_17 : decode cX10_told 17 = .ok (.iload_n 2, 1) := by decide +kernel
theorem dX10_told_18 : decode cX10_told 18 = .ok (.iconst 4, 1) := by decide +kernel
theorem dX10_told_19 : decode cX10_told 19 = .ok (.if_icmp .le 5, 3) := by decide +kernel
theorem dX10_told_22 : decode cX10_told 22 = .ok (.iconst (-1), 1) := by decide +kernel
theorem dX10_told_23 : decode cX10_told 23 = .ok (.ireturn, 1) := by decide +kernel
theorem dX10_told_24 : decode cX10_told 24 = .ok (.aload_n 3, 1) := by decide +kernel
theorem dX10_told_25 : decode cX10_told 25 = .ok (.iload_n 2, 1) := by decide +kernel
theorem dX10_told_26 : decode cX10_told 26 = .ok (.invokevirtual 154, 3) := by decide +kernel
theorem dX10_told_29 : decode cX10_told 29 = .ok (.ireturn, 1) := by decide +kernel
theorem dX10_is_0 : decode cX10_is 0 = .ok (.aload_n 0, 1) := by decide +kernel
theorem dX10_is_1 : decode cX10_is 1 = .ok (.getfield 10, 3) := by decide +kernel
theorem dX10_is_4 : decode cX10_is 4 = .ok (.iload_n 1, 1) := by decide +kernel
theorem dX10_is_5 : decode cX10_is 5 = .ok (.invokevirtual 87, 3) := by decide +kernel
theorem dX10_is_8 : decode cX10_is 8 = .ok (.astore_n 3, 1) := by decide +kernel
theorem dX10_is_9 : decode cX10_is 9 = .ok (.aload_n 3, 1) := by decide +kernel
theorem dX10_is_10 : decode cX10_is 10 = .ok (.ifnull 12, 3) := by decide +kernel
theorem dX10_is_13 : decode cX10_is 13 = .ok (.iload_n 2, 1) := by decide +kernel
theorem dX10_is_14 : decode cX10_is 14 = .ok (.ifCond .lt 8, 3) := by decide +kernel
theorem dX10_is_17 : decode cX10_is 17 = .ok (.iload_n 2, 1) := by decide +kernel
theorem dX10_is_18 : decode cX10_is 18 = .ok (.iconst 5, 1) := by decide +kernel
theorem dX10_is_19 : decode cX10_is 19 = .ok (.if_icmp .le 5, 3) := by decide +kernel
theorem dX10_is_22 : decode cX10_is 22 = .ok (.iconst (-1), 1) := by decide +kernel
theorem dX10_is_23 : decode cX10_is 23 = .ok (.ireturn, 1) := by decide +kernel
theorem dX10_is_24 : decode cX10_is 24 = .ok (.aload_n 3, 1) := by decide +kernel
theorem dX10_is_25 : decode cX10_is 25 = .ok (.getfield 111, 3) := by decide +kernel
theorem dX10_is_28 : decode cX10_is 28 = .ok (.istore 4, 2) := by decide +kernel
theorem dX10_is_30 : decode cX10_is 30 = .ok (.iconst 0, 1) := by decide +kernel
theorem dX10_is_31 : decode cX10_is 31 = .ok (.istore 5, 2) := by decide +kernel
theorem dX10_is_33 : decode cX10_is 33 = .ok (.iload 5, 2) := by decide +kernel
theorem dX10_is_35 : decode cX10_is 35 = .ok (.getstatic 157, 3) := by decide +kernel
theorem dX10_is_38 : decode cX10_is 38 = .ok (.arraylength, 1) := by decide +kernel
theorem dX10_is_39 : decode cX10_is 39 = .ok (.if_icmp .ge 39, 3) := by decide +kernel
theorem dX10_is_42 : decode cX10_is 42 = .ok (.iload 4, 2) := by decide +kernel
theorem dX10_is_44 : decode cX10_is 44 = .ok (.ifCond .lt 34, 3) := by decide +kernel
theorem dX10_is_47 : decode cX10_is 47 = .ok (.iload 4, 2) := by decide +kernel
theorem dX10_is_49 : decode cX10_is 49 = .ok (.getstatic 157, 3) := by decide +kernel
theorem dX10_is_52 : decode cX10_is 52 = .ok (.arraylength, 1) := by decide +kernel
theorem dX10_is_53 : decode cX10_is 53 = .ok (.if_icmp .ge 25, 3) := by decide +kernel
theorem dX10_is_56 : decode cX10_is 56 = .ok (.iload 4, 2) := by decide +kernel
theorem dX10_is_58 : decode cX10_is 58 = .ok (.iload_n 2, 1) := by decide +kernel
theorem dX10_is_59 : decode cX10_is 59 = .ok (.if_icmp .ne 5, 3) := by decide +kernel
theorem dX10_is_62 : decode cX10_is 62 = .ok (.iconst 1, 1) := by decide +kernel
theorem dX10_is_63 : decode cX10_is 63 = .ok (.ireturn, 1) := by decide +kernel
theorem dX10_is_64 : decode cX10_is 64 = .ok (.getstatic 157, 3) := by decide +kernel
theorem dX10_is_67 : decode cX10_is 67 = .ok (.iload 4, 2) := by decide +kernel
theorem dX10_is_69 : decode cX10_is 69 = .ok (.iaload, 1) := by decide +kernel
theorem dX10_is_70 : decode cX10_is 70 = .ok (.istore 4, 2) := by decide +kernel
theorem dX10_is_72 : decode cX10_is 72 = .ok (.iinc 5 1, 3) := by decide +kernel
theorem dX10_is_75 : decode cX10_is 75 = .ok (.goto (-42), 3) := by decide +kernel
theorem dX10_is_78 : decode cX10_is 78 = .ok (.iconst 0, 1) := by decide +kernel
theorem dX10_is_79 : decode cX10_is 79 = .ok (.ireturn, 1) := by decide +kernel
theorem dX10_ends_0 : decode cX10_ends 0 = .ok (.aload_n 0, 1) := by decide +kernel
theorem dX10_ends_1 : decode cX10_ends 1 = .ok (.getfield 10, 3) := by decide +kernel
theorem dX10_ends_4 : decode cX10_ends 4 = .ok (.iload_n 1, 1) := by decide +kernel
theorem dX10_ends_5 : decode cX10_ends 5 = .ok (.invokevirtual 98, 3) := by decide +kernel
theorem dX10_ends_8 : decode cX10_ends 8 = .ok (.astore_n 3, 1) := by decide +kernel
theorem dX10_ends_9 : decode cX10_ends 9 = .ok (.aload_n 3, 1) := by decide +kernel
theorem dX10_ends_10 : decode cX10_ends 10 = .ok (.ifnull 12, 3) := by decide +kernel
theorem dX10_ends_13 : decode cX10_ends 13 = .ok (.iload_n 2, 1) := by decide +kernel
theorem dX10_ends_14 : decode cX10_ends 14 = .ok (.ifCond .lt 8, 3) := by decide +kernel
theorem dX10_ends_17 : decode cX10_ends 17 = .ok (.iload_n 2, 1) := by decide +kernel
theorem dX10_ends_18 : decode cX10_ends 18 = .ok (.iconst 4, 1) := by decide +kernel
theorem dX10_ends_19 : decode cX10_ends 19 = .ok (.if_icmp .le 5, 3) := by decide +kernel
theorem dX10_ends_22 : decode cX10_ends 22 = .ok (.iconst (-1), 1) := by decide +kernel
theorem dX10_ends_23 : decode cX10_ends 23 = .ok (.ireturn, 1) := by decide +kernel
theorem dX10_ends_24 : decode cX10_ends 24 = .ok (.aload_n 3, 1) := by decide +kernel
theorem dX10_ends_25 : decode cX10_ends 25 = .ok (.iload_n 2, 1) := by decide +kernel
theorem dX10_ends_26 : decode cX10_ends 26 = .ok (.invokevirtual 160, 3) := by decide +kernel
theorem dX10_ends_29 : decode cX10_ends 29 = .ok (.ireturn, 1) := by decide +kernel
theorem dX10_round_0 : decode cX10_round 0 = .ok (.aload_n 0, 1) := by decide +kernel
theorem dX10_round_1 : decode cX10_round 1 = .ok (.getfield 10, 3) := by decide +kernel
theorem dX10_round_4 : decode cX10_round 4 = .ok (.invokevirtual 163, 3) := by decide +kernel
theorem dX10_round_7 : decode cX10_round 7 = .ok (.istore_n 1, 1) := by decide +kernel
theorem dX10_round_8 : decode cX10_round 8 = .ok (.iload_n 1, 1) := by decide +kernel
theorem dX10_round_9 : decode cX10_round 9 = .ok (.ifCond .ne 13, 3) := by decide +kernel
theorem dX10_round_12 : decode cX10_round 12 = .ok (.aload_n 0, 1) := by decide +kernel
theorem dX10_round_13 : decode cX10_round 13 = .ok (.getfield 10, 3) := by decide +kernel
theorem dX10_round_16 : decode cX10_round 16 = .ok (.getfield 167, 3) := by decide +kernel
theorem dX10_round_19 : decode cX10_round 19 = .ok (.goto 4, 3) := by decide +kernel
theorem dX10_round_22 : decode cX10_round 22 = .ok (.iload_n 1, 1) := by decide +kernel
theorem dX10_round_23 : decode cX10_round 23 = .ok (.ireturn, 1) := by decide +kernel
theorem dX10_firings_0 : decode cX10_firings 0 = .ok (.aload_n 0, 1) := by decide +kernel
theorem dX10_firings_1 : decode cX10_firings 1 = .ok (.getfield 10, 3) := by decide +kernel
theorem dX10_firings_4 : decode cX10_firings 4 = .ok (.iload_n 1, 1) := by decide +kernel
theorem dX10_firings_5 : decode cX10_firings 5 = .ok (.invokevirtual 87, 3) := by decide +kernel
theorem dX10_firings_8 : decode cX10_firings 8 = .ok (.astore_n 2, 1) := by decide +kernel
theorem dX10_firings_9 : decode cX10_firings 9 = .ok (.aload_n 2, 1) := by decide +kernel
theorem dX10_firings_10 : decode cX10_firings 10 = .ok (.ifnonnull 5, 3) := by decide +kernel
theorem dX10_firings_13 : decode cX10_firings 13 = .ok (.iconst (-1), 1) := by decide +kernel
theorem dX10_firings_14 : decode cX10_firings 14 = .ok (.ireturn, 1) := by decide +kernel
theorem dX10_firings_15 : decode cX10_firings 15 = .ok (.aload_n 0, 1) := by decide +kernel
theorem dX10_firings_16 : decode cX10_firings 16 = .ok (.getfield 10, 3) := by decide +kernel
theorem dX10_firings_19 : decode cX10_firings 19 = .ok (.invokevirtual 163, 3) := by decide +kernel
theorem dX10_firings_22 : decode cX10_firings 22 = .ok (.istore_n 3, 1) := by decide +kernel
theorem dX10_firings_23 : decode cX10_firings 23 = .ok (.iload_n 3, 1) := by decide +kernel
theorem dX10_firings_24 : decode cX10_firings 24 = .ok (.ifCond .ne 10, 3) := by decide +kernel
theorem dX10_firings_27 : decode cX10_firings 27 = .ok (.aload_n 2, 1) := by decide +kernel
theorem dX10_firings_28 : decode cX10_firings 28 = .ok (.getfield 170, 3) := by decide +kernel
theorem dX10_firings_31 : decode cX10_firings 31 = .ok (.goto 4, 3) := by decide +kernel
theorem dX10_firings_34 : decode cX10_firings 34 = .ok (.iload_n 3, 1) := by decide +kernel
theorem dX10_firings_35 : decode cX10_firings 35 = .ok (.ireturn, 1) := by decide +kernel
theorem dX10_uneven_0 : decode cX10_uneven 0 = .ok (.aload_n 0, 1) := by decide +kernel
theorem dX10_uneven_1 : decode cX10_uneven 1 = .ok (.getfield 10, 3) := by decide +kernel
theorem dX10_uneven_4 : decode cX10_uneven 4 = .ok (.invokevirtual 163, 3) := by decide +kernel
theorem dX10_uneven_7 : decode cX10_uneven 7 = .ok (.bipush (-4), 2) := by decide +kernel
theorem dX10_uneven_9 : decode cX10_uneven 9 = .ok (.if_icmp .ne 8, 3) := by decide +kernel
theorem dX10_uneven_12 : decode cX10_uneven 12 = .ok (.bipush (-4), 2) := by decide +kernel
theorem dX10_uneven_14 : decode cX10_uneven 14 = .ok (.goto 10, 3) := by decide +kernel
theorem dX10_uneven_17 : decode cX10_uneven 17 = .ok (.aload_n 0, 1) := by decide +kernel
theorem dX10_uneven_18 : decode cX10_uneven 18 = .ok (.getfield 10, 3) := by decide +kernel
theorem dX10_uneven_21 : decode cX10_uneven 21 = .ok (.getfield 171, 3) := by decide +kernel
theorem dX10_uneven_24 : decode cX10_uneven 24 = .ok (.ireturn, 1) := by decide +kernel
theorem dX10_stuck_0 : decode cX10_stuck 0 = .ok (.aload_n 0, 1) := by decide +kernel
theorem dX10_stuck_1 : decode cX10_stuck 1 = .ok (.invokevirtual 174, 3) := by decide +kernel
theorem dX10_stuck_4 : decode cX10_stuck 4 = .ok (.istore_n 1, 1) := by decide +kernel
theorem dX10_stuck_5 : decode cX10_stuck 5 = .ok (.iload_n 1, 1) := by decide +kernel
theorem dX10_stuck_6 : decode cX10_stuck 6 = .ok (.ifCond .eq 5, 3) := by decide +kernel
theorem dX10_stuck_9 : decode cX10_stuck 9 = .ok (.iload_n 1, 1) := by decide +kernel
theorem dX10_stuck_10 : decode cX10_stuck 10 = .ok (.ireturn, 1) := by decide +kernel
theorem dX10_stuck_11 : decode cX10_stuck 11 = .ok (.aload_n 0, 1) := by decide +kernel
theorem dX10_stuck_12 : decode cX10_stuck 12 = .ok (.getfield 33, 3) := by decide +kernel
theorem dX10_stuck_15 : decode cX10_stuck 15 = .ok (.invokevirtual 177, 3) := by decide +kernel
theorem dX10_stuck_18 : decode cX10_stuck 18 = .ok (.ifCond .eq 7, 3) := by decide +kernel
theorem dX10_stuck_21 : decode cX10_stuck 21 = .ok (.iconst 1, 1) := by decide +kernel
theorem dX10_stuck_22 : decode cX10_stuck 22 = .ok (.goto 4, 3) := by decide +kernel
theorem dX10_stuck_25 : decode cX10_stuck 25 = .ok (.iconst 0, 1) := by decide +kernel
theorem dX10_stuck_26 : decode cX10_stuck 26 = .ok (.ireturn, 1) := by decide +kernel
theorem dX10_lacks_0 : decode cX10_lacks 0 = .ok (.aload_n 0, 1) := by decide +kernel
theorem dX10_lacks_1 : decode cX10_lacks 1 = .ok (.getfield 10, 3) := by decide +kernel
theorem dX10_lacks_4 : decode cX10_lacks 4 = .ok (.iload_n 1, 1) := by decide +kernel
theorem dX10_lacks_5 : decode cX10_lacks 5 = .ok (.invokevirtual 98, 3) := by decide +kernel
theorem dX10_lacks_8 : decode cX10_lacks 8 = .ok (.ifnonnull 5, 3) := by decide +kernel
theorem dX10_lacks_11 : decode cX10_lacks 11 = .ok (.iconst (-1), 1) := by decide +kernel
theorem dX10_lacks_12 : decode cX10_lacks 12 = .ok (.ireturn, 1) := by decide +kernel
theorem dX10_lacks_13 : decode cX10_lacks 13 = .ok (.aload_n 0, 1) := by decide +kernel
theorem dX10_lacks_14 : decode cX10_lacks 14 = .ok (.invokevirtual 174, 3) := by decide +kernel
theorem dX10_lacks_17 : decode cX10_lacks 17 = .ok (.istore_n 2, 1) := by decide +kernel
theorem dX10_lacks_18 : decode cX10_lacks 18 = .ok (.iload_n 2, 1) := by decide +kernel
theorem dX10_lacks_19 : decode cX10_lacks 19 = .ok (.ifCond .eq 7, 3) := by decide +kernel
theorem dX10_lacks_22 : decode cX10_lacks 22 = .ok (.iload_n 2, 1) := by decide +kernel
theorem dX10_lacks_23 : decode cX10_lacks 23 = .ok (.goto 11, 3) := by decide +kernel
theorem dX10_lacks_26 : decode cX10_lacks 26 = .ok (.aload_n 0, 1) := by decide +kernel
theorem dX10_lacks_27 : decode cX10_lacks 27 = .ok (.getfield 33, 3) := by decide +kernel
theorem dX10_lacks_30 : decode cX10_lacks 30 = .ok (.iload_n 1, 1) := by decide +kernel
theorem dX10_lacks_31 : decode cX10_lacks 31 = .ok (.invokevirtual 181, 3) := by decide +kernel
theorem dX10_lacks_34 : decode cX10_lacks 34 = .ok (.ireturn, 1) := by decide +kernel
theorem dX10_schedule_0 : decode cX10_schedule 0 = .ok (.iload_n 1, 1) := by decide +kernel
theorem dX10_schedule_1 : decode cX10_schedule 1 = .ok (.ifCond .lt 8, 3) := by decide +kernel
theorem dX10_schedule_4 : decode cX10_schedule 4 = .ok (.iload_n 1, 1) := by decide +kernel
theorem dX10_schedule_5 : decode cX10_schedule 5 = .ok (.iconst 2, 1) := by decide +kernel
theorem dX10_schedule_6 : decode cX10_schedule 6 = .ok (.if_icmp .le 5, 3) := by decide +kernel
theorem dX10_schedule_9 : decode cX10_schedule 9 = .ok (.iconst (-1), 1) := by decide +kernel
theorem dX10_schedule_10 : decode cX10_schedule 10 = .ok (.ireturn, 1) := by decide +kernel
theorem dX10_schedule_11 : decode cX10_schedule 11 = .ok (.aload_n 0, 1) := by decide +kernel
theorem dX10_schedule_12 : decode cX10_schedule 12 = .ok (.invokevirtual 184, 3) := by decide +kernel
theorem dX10_schedule_15 : decode cX10_schedule 15 = .ok (.istore_n 2, 1) := by decide +kernel
theorem dX10_schedule_16 : decode cX10_schedule 16 = .ok (.iload_n 2, 1) := by decide +kernel
theorem dX10_schedule_17 : decode cX10_schedule 17 = .ok (.ifCond .eq 7, 3) := by decide +kernel
theorem dX10_schedule_20 : decode cX10_schedule 20 = .ok (.iload_n 2, 1) := by decide +kernel
theorem dX10_schedule_21 : decode cX10_schedule 21 = .ok (.goto 11, 3) := by decide +kernel
theorem dX10_schedule_24 : decode cX10_schedule 24 = .ok (.aload_n 0, 1) := by decide +kernel
theorem dX10_schedule_25 : decode cX10_schedule 25 = .ok (.getfield 26, 3) := by decide +kernel
theorem dX10_schedule_28 : decode cX10_schedule 28 = .ok (.iload_n 1, 1) := by decide +kernel
theorem dX10_schedule_29 : decode cX10_schedule 29 = .ok (.invokevirtual 187, 3) := by decide +kernel
theorem dX10_schedule_32 : decode cX10_schedule 32 = .ok (.ireturn, 1) := by decide +kernel
theorem dX10_least_0 : decode cX10_least 0 = .ok (.iload_n 1, 1) := by decide +kernel
theorem dX10_least_1 : decode cX10_least 1 = .ok (.iconst 1, 1) := by decide +kernel
theorem dX10_least_2 : decode cX10_least 2 = .ok (.if_icmp .lt 10, 3) := by decide +kernel
theorem dX10_least_5 : decode cX10_least 5 = .ok (.iload_n 1, 1) := by decide +kernel
theorem dX10_least_6 : decode cX10_least 6 = .ok (.sipush 20000, 3) := by decide +kernel
theorem dX10_least_9 : decode cX10_least 9 = .ok (.if_icmp .le 5, 3) := by decide +kernel
theorem dX10_least_12 : decode cX10_least 12 = .ok (.iconst (-1), 1) := by decide +kernel
theorem dX10_least_13 : decode cX10_least 13 = .ok (.ireturn, 1) := by decide +kernel
theorem dX10_least_14 : decode cX10_least 14 = .ok (.aload_n 0, 1) := by decide +kernel
theorem dX10_least_15 : decode cX10_least 15 = .ok (.getfield 10, 3) := by decide +kernel
theorem dX10_least_18 : decode cX10_least 18 = .ok (.getfield 72, 3) := by decide +kernel
theorem dX10_least_21 : decode cX10_least 21 = .ok (.bipush 8, 2) := by decide +kernel
theorem dX10_least_23 : decode cX10_least 23 = .ok (.if_icmp .le 6, 3) := by decide +kernel
theorem dX10_least_26 : decode cX10_least 26 = .ok (.bipush (-4), 2) := by decide +kernel
theorem dX10_least_28 : decode cX10_least 28 = .ok (.ireturn, 1) := by decide +kernel
theorem dX10_least_29 : decode cX10_least 29 = .ok (.aload_n 0, 1) := by decide +kernel
theorem dX10_least_30 : decode cX10_least 30 = .ok (.invokevirtual 184, 3) := by decide +kernel
theorem dX10_least_33 : decode cX10_least 33 = .ok (.istore_n 2, 1) := by decide +kernel
theorem dX10_least_34 : decode cX10_least 34 = .ok (.iload_n 2, 1) := by decide +kernel
theorem dX10_least_35 : decode cX10_least 35 = .ok (.ifCond .eq 5, 3) := by decide +kernel
theorem dX10_least_38 : decode cX10_least 38 = .ok (.iload_n 2, 1) := by decide +kernel
theorem dX10_least_39 : decode cX10_least 39 = .ok (.ireturn, 1) := by decide +kernel
theorem dX10_least_40 : decode cX10_least 40 = .ok (.aload_n 0, 1) := by decide +kernel
theorem dX10_least_41 : decode cX10_least 41 = .ok (.getfield 10, 3) := by decide +kernel
theorem dX10_least_44 : decode cX10_least 44 = .ok (.getfield 167, 3) := by decide +kernel
theorem dX10_least_47 : decode cX10_least 47 = .ok (.bipush 40, 2) := by decide +kernel
theorem dX10_least_49 : decode cX10_least 49 = .ok (.if_icmp .le 6, 3) := by decide +kernel
theorem dX10_least_52 : decode cX10_least 52 = .ok (.bipush (-4), 2) := by decide +kernel
theorem dX10_least_54 : decode cX10_least 54 = .ok (.ireturn, 1) := by decide +kernel
theorem dX10_least_55 : decode cX10_least 55 = .ok (.aload_n 0, 1) := by decide +kernel
theorem dX10_least_56 : decode cX10_least 56 = .ok (.getfield 40, 3) := by decide +kernel
theorem dX10_least_59 : decode cX10_least 59 = .ok (.iload_n 1, 1) := by decide +kernel
theorem dX10_least_60 : decode cX10_least 60 = .ok (.invokevirtual 190, 3) := by decide +kernel
theorem dX10_least_63 : decode cX10_least 63 = .ok (.ifCond .eq 27, 3) := by decide +kernel
theorem dX10_least_66 : decode cX10_least 66 = .ok (.aload_n 0, 1) := by decide +kernel
theorem dX10_least_67 : decode cX10_least 67 = .ok (.getfield 26, 3) := by decide +kernel
theorem dX10_least_70 : decode cX10_least 70 = .ok (.aload_n 0, 1) := by decide +kernel
theorem dX10_least_71 : decode cX10_least 71 = .ok (.getfield 40, 3) := by decide +kernel
theorem dX10_least_74 : decode cX10_least 74 = .ok (.getfield 194, 3) := by decide +kernel
theorem dX10_least_77 : decode cX10_least 77 = .ok (.aload_n 0, 1) := by decide +kernel
theorem dX10_least_78 : decode cX10_least 78 = .ok (.getfield 10, 3) := by decide +kernel
theorem dX10_least_81 : decode cX10_least 81 = .ok (.getfield 167, 3) := by decide +kernel
theorem dX10_least_84 : decode cX10_least 84 = .ok (.invokevirtual 197, 3) := by decide +kernel
theorem dX10_least_87 : decode cX10_least 87 = .ok (.goto 5, 3) := by decide +kernel
theorem dX10_least_90 : decode cX10_least 90 = .ok (.bipush (-6), 2) := by decide +kernel
theorem dX10_least_92 : decode cX10_least 92 = .ok (.ireturn, 1) := by decide +kernel
theorem dX10_tries_0 : decode cX10_tries 0 = .ok (.aload_n 0, 1) := by decide +kernel
theorem dX10_tries_1 : decode cX10_tries 1 = .ok (.getfield 40, 3) := by decide +kernel
theorem dX10_tries_4 : decode cX10_tries 4 = .ok (.getfield 201, 3) := by decide +kernel
theorem dX10_tries_7 : decode cX10_tries 7 = .ok (.ireturn, 1) := by decide +kernel
theorem dX10_once_0 : decode cX10_once 0 = .ok (.aload_n 0, 1) := by decide +kernel
theorem dX10_once_1 : decode cX10_once 1 = .ok (.invokevirtual 174, 3) := by decide +kernel
theorem dX10_once_4 : decode cX10_once 4 = .ok (.istore_n 1, 1) := by decide +kernel
theorem dX10_once_5 : decode cX10_once 5 = .ok (.iload_n 1, 1) := by decide +kernel
theorem dX10_once_6 : decode cX10_once 6 = .ok (.ifCond .eq 5, 3) := by decide +kernel
theorem dX10_once_9 : decode cX10_once 9 = .ok (.iload_n 1, 1) := by decide +kernel
theorem dX10_once_10 : decode cX10_once 10 = .ok (.ireturn, 1) := by decide +kernel
theorem dX10_once_11 : decode cX10_once 11 = .ok (.aload_n 0, 1) := by decide +kernel
theorem dX10_once_12 : decode cX10_once 12 = .ok (.getfield 10, 3) := by decide +kernel
theorem dX10_once_15 : decode cX10_once 15 = .ok (.invokevirtual 204, 3) := by decide +kernel
theorem dX10_once_18 : decode cX10_once 18 = .ok (.ifCond .eq 9, 3) := by decide +kernel
theorem dX10_once_21 : decode cX10_once 21 = .ok (.aload_n 0, 1) := by decide +kernel
theorem dX10_once_22 : decode cX10_once 22 = .ok (.iconst 3, 1) := by decide +kernel
theorem dX10_once_23 : decode cX10_once 23 = .ok (.invokevirtual 76, 3) := by decide +kernel
theorem dX10_once_26 : decode cX10_once 26 = .ok (.ireturn, 1) := by decide +kernel
theorem dX10_once_27 : decode cX10_once 27 = .ok (.aload_n 0, 1) := by decide +kernel
theorem dX10_once_28 : decode cX10_once 28 = .ok (.getfield 47, 3) := by decide +kernel
theorem dX10_once_31 : decode cX10_once 31 = .ok (.invokevirtual 207, 3) := by decide +kernel
theorem dX10_once_34 : decode cX10_once 34 = .ok (.ifCond .ne 6, 3) := by decide +kernel
theorem dX10_once_37 : decode cX10_once 37 = .ok (.bipush (-9), 2) := by decide +kernel
theorem dX10_once_39 : decode cX10_once 39 = .ok (.ireturn, 1) := by decide +kernel
theorem dX10_once_40 : decode cX10_once 40 = .ok (.aload_n 0, 1) := by decide +kernel
theorem dX10_once_41 : decode cX10_once 41 = .ok (.getfield 47, 3) := by decide +kernel
theorem dX10_once_44 : decode cX10_once 44 = .ok (.aload_n 0, 1) := by decide +kernel
theorem dX10_once_45 : decode cX10_once 45 = .ok (.getfield 26, 3) := by decide +kernel
theorem dX10_once_48 : decode cX10_once 48 = .ok (.getfield 210, 3) := by decide +kernel
theorem dX10_once_51 : decode cX10_once 51 = .ok (.invokevirtual 212, 3) := by decide +kernel
theorem dX10_once_54 : decode cX10_once 54 = .ok (.aload_n 0, 1) := by decide +kernel
theorem dX10_once_55 : decode cX10_once 55 = .ok (.getfield 26, 3) := by decide +kernel
theorem dX10_once_58 : decode cX10_once 58 = .ok (.aload_n 0, 1) := by decide +kernel
theorem dX10_once_59 : decode cX10_once 59 = .ok (.getfield 26, 3) := by decide +kernel
theorem dX10_once_62 : decode cX10_once 62 = .ok (.getfield 210, 3) := by decide +kernel
theorem dX10_once_65 : decode cX10_once 65 = .ok (.aload_n 0, 1) := by decide +kernel
theorem dX10_once_66 : decode cX10_once 66 = .ok (.getfield 10, 3) := by decide +kernel
theorem dX10_once_69 : decode cX10_once 69 = .ok (.getfield 167, 3) := by decide +kernel
theorem dX10_once_72 : decode cX10_once 72 = .ok (.invokevirtual 197, 3) := by decide +kernel
theorem dX10_once_75 : decode cX10_once 75 = .ok (.ireturn, 1) := by decide +kernel
theorem dX10_bracket_0 : decode cX10_bracket 0 = .ok (.aload_n 0, 1) := by decide +kernel
theorem dX10_bracket_1 : decode cX10_bracket 1 = .ok (.getfield 47, 3) := by decide +kernel
theorem dX10_bracket_4 : decode cX10_bracket 4 = .ok (.iload_n 1, 1) := by decide +kernel
theorem dX10_bracket_5 : decode cX10_bracket 5 = .ok (.invokevirtual 216, 3) := by decide +kernel
theorem dX10_bracket_8 : decode cX10_bracket 8 = .ok (.ireturn, 1) := by decide +kernel
theorem dX10_firing_0 : decode cX10_firing 0 = .ok (.aload_n 0, 1) := by decide +kernel
theorem dX10_firing_1 : decode cX10_firing 1 = .ok (.getfield 26, 3) := by decide +kernel
theorem dX10_firing_4 : decode cX10_firing 4 = .ok (.iload_n 1, 1) := by decide +kernel
theorem dX10_firing_5 : decode cX10_firing 5 = .ok (.invokevirtual 219, 3) := by decide +kernel
theorem dX10_firing_8 : decode cX10_firing 8 = .ok (.ifCond .eq 15, 3) := by decide +kernel
theorem dX10_firing_11 : decode cX10_firing 11 = .ok (.aload_n 0, 1) := by decide +kernel
theorem dX10_firing_12 : decode cX10_firing 12 = .ok (.getfield 26, 3) := by decide +kernel
theorem dX10_firing_15 : decode cX10_firing 15 = .ok (.getfield 210, 3) := by decide +kernel
theorem dX10_firing_18 : decode cX10_firing 18 = .ok (.iload_n 1, 1) := by decide +kernel
theorem dX10_firing_19 : decode cX10_firing 19 = .ok (.iaload, 1) := by decide +kernel
theorem dX10_firing_20 : decode cX10_firing 20 = .ok (.goto 5, 3) := by decide +kernel
theorem dX10_firing_23 : decode cX10_firing 23 = .ok (.bipush (-9), 2) := by decide +kernel
theorem dX10_firing_25 : decode cX10_firing 25 = .ok (.ireturn, 1) := by decide +kernel
theorem dX10_store_0 : decode cX10_store 0 = .ok (.aload_n 0, 1) := by decide +kernel
theorem dX10_store_1 : decode cX10_store 1 = .ok (.getfield 10, 3) := by decide +kernel
theorem dX10_store_4 : decode cX10_store 4 = .ok (.iload_n 1, 1) := by decide +kernel
theorem dX10_store_5 : decode cX10_store 5 = .ok (.invokevirtual 98, 3) := by decide +kernel
theorem dX10_store_8 : decode cX10_store 8 = .ok (.ifnonnull 5, 3) := by decide +kernel
theorem dX10_store_11 : decode cX10_store 11 = .ok (.iconst (-1), 1) := by decide +kernel
theorem dX10_store_12 : decode cX10_store 12 = .ok (.ireturn, 1) := by decide +kernel
theorem dX10_store_13 : decode cX10_store 13 = .ok (.aload_n 0, 1) := by decide +kernel
theorem dX10_store_14 : decode cX10_store 14 = .ok (.getfield 26, 3) := by decide +kernel
theorem dX10_store_17 : decode cX10_store 17 = .ok (.getfield 222, 3) := by decide +kernel
theorem dX10_store_20 : decode cX10_store 20 = .ok (.ifCond .ne 8, 3) := by decide +kernel
theorem dX10_store_23 : decode cX10_store 23 = .ok (.bipush (-9), 2) := by decide +kernel
theorem dX10_store_25 : decode cX10_store 25 = .ok (.goto 12, 3) := by decide +kernel
theorem dX10_store_28 : decode cX10_store 28 = .ok (.aload_n 0, 1) := by decide +kernel
theorem dX10_store_29 : decode cX10_store 29 = .ok (.getfield 26, 3) := by decide +kernel
theorem dX10_store_32 : decode cX10_store 32 = .ok (.getfield 225, 3) := by decide +kernel
theorem dX10_store_35 : decode cX10_store 35 = .ok (.iload_n 1, 1) := by decide +kernel
theorem dX10_store_36 : decode cX10_store 36 = .ok (.iaload, 1) := by decide +kernel
theorem dX10_store_37 : decode cX10_store 37 = .ok (.ireturn, 1) := by decide +kernel
theorem dX10_marking_0 : decode cX10_marking 0 = .ok (.aload_n 0, 1) := by decide +kernel
theorem dX10_marking_1 : decode cX10_marking 1 = .ok (.getfield 10, 3) := by decide +kernel
theorem dX10_marking_4 : decode cX10_marking 4 = .ok (.iload_n 2, 1) := by decide +kernel
theorem dX10_marking_5 : decode cX10_marking 5 = .ok (.invokevirtual 98, 3) := by decide +kernel
theorem dX10_marking_8 : decode cX10_marking 8 = .ok (.astore_n 3, 1) := by decide +kernel
theorem dX10_marking_9 : decode cX10_marking 9 = .ok (.aload_n 3, 1) := by decide +kernel
theorem dX10_marking_10 : decode cX10_marking 10 = .ok (.ifnonnull 5, 3) := by decide +kernel
theorem dX10_marking_13 : decode cX10_marking 13 = .ok (.iconst (-1), 1) := by decide +kernel
theorem dX10_marking_14 : decode cX10_marking 14 = .ok (.ireturn, 1) := by decide +kernel
theorem dX10_marking_15 : decode cX10_marking 15 = .ok (.aload_n 0, 1) := by decide +kernel
theorem dX10_marking_16 : decode cX10_marking 16 = .ok (.getfield 26, 3) := by decide +kernel
theorem dX10_marking_19 : decode cX10_marking 19 = .ok (.getfield 222, 3) := by decide +kernel
theorem dX10_marking_22 : decode cX10_marking 22 = .ok (.ifCond .eq 18, 3) := by decide +kernel
theorem dX10_marking_25 : decode cX10_marking 25 = .ok (.iload_n 1, 1) := by decide +kernel
theorem dX10_marking_26 : decode cX10_marking 26 = .ok (.ifCond .lt 14, 3) := by decide +kernel
theorem dX10_marking_29 : decode cX10_marking 29 = .ok (.iload_n 1, 1) := by decide +kernel
theorem dX10_marking_30 : decode cX10_marking 30 = .ok (.aload_n 0, 1) := by decide +kernel
theorem dX10_marking_31 : decode cX10_marking 31 = .ok (.getfield 26, 3) := by decide +kernel
theorem dX10_marking_34 : decode cX10_marking 34 = .ok (.getfield 222, 3) := by decide +kernel
theorem dX10_marking_37 : decode cX10_marking 37 = .ok (.if_icmp .le 6, 3) := by decide +kernel
theorem dX10_marking_40 : decode cX10_marking 40 = .ok (.bipush (-9), 2) := by decide +kernel
theorem dX10_marking_42 : decode cX10_marking 42 = .ok (.ireturn, 1) := by decide +kernel
theorem dX10_marking_43 : decode cX10_marking 43 = .ok (.aload_n 0, 1) := by decide +kernel
theorem dX10_marking_44 : decode cX10_marking 44 = .ok (.getfield 26, 3) := by decide +kernel
theorem dX10_marking_47 : decode cX10_marking 47 = .ok (.aload_n 3, 1) := by decide +kernel
theorem dX10_marking_48 : decode cX10_marking 48 = .ok (.iload_n 1, 1) := by decide +kernel
theorem dX10_marking_49 : decode cX10_marking 49 = .ok (.invokevirtual 228, 3) := by decide +kernel
theorem dX10_marking_52 : decode cX10_marking 52 = .ok (.ireturn, 1) := by decide +kernel
theorem dX10_draft_0 : decode cX10_draft 0 = .ok (.aload_n 0, 1) := by decide +kernel
theorem dX10_draft_1 : decode cX10_draft 1 = .ok (.getfield 10, 3) := by decide +kernel
theorem dX10_draft_4 : decode cX10_draft 4 = .ok (.iload_n 1, 1) := by decide +kernel
theorem dX10_draft_5 : decode cX10_draft 5 = .ok (.invokevirtual 87, 3) := by decide +kernel
theorem dX10_draft_8 : decode cX10_draft 8 = .ok (.ifnonnull 5, 3) := by decide +kernel
theorem dX10_draft_11 : decode cX10_draft 11 = .ok (.iconst (-1), 1) := by decide +kernel
theorem dX10_draft_12 : decode cX10_draft 12 = .ok (.ireturn, 1) := by decide +kernel
theorem dX10_draft_13 : decode cX10_draft 13 = .ok (.aload_n 0, 1) := by decide +kernel
theorem dX10_draft_14 : decode cX10_draft 14 = .ok (.getfield 232, 3) := by decide +kernel
theorem dX10_draft_17 : decode cX10_draft 17 = .ok (.sipush 200, 3) := by decide +kernel
theorem dX10_draft_20 : decode cX10_draft 20 = .ok (.if_icmp .lt 6, 3) := by decide +kernel
theorem dX10_draft_23 : decode cX10_draft 23 = .ok (.bipush (-2), 2) := by decide +kernel
theorem dX10_draft_25 : decode cX10_draft 25 = .ok (.ireturn, 1) := by decide +kernel
theorem dX10_draft_26 : decode cX10_draft 26 = .ok (.aload_n 0, 1) := by decide +kernel
theorem dX10_draft_27 : decode cX10_draft 27 = .ok (.getfield 65, 3) := by decide +kernel
theorem dX10_draft_30 : decode cX10_draft 30 = .ok (.aload_n 0, 1) := by decide +kernel
theorem dX10_draft_31 : decode cX10_draft 31 = .ok (.getfield 232, 3) := by decide +kernel
theorem dX10_draft_34 : decode cX10_draft 34 = .ok (.iload_n 1, 1) := by decide +kernel
theorem dX10_draft_35 : decode cX10_draft 35 = .ok (.iastore, 1) := by decide +kernel
theorem dX10_draft_36 : decode cX10_draft 36 = .ok (.aload_n 0, 1) := by decide +kernel
theorem dX10_draft_37 : decode cX10_draft 37 = .ok (.dup, 1) := by decide +kernel
theorem dX10_draft_38 : decode cX10_draft 38 = .ok (.getfield 232, 3) := by decide +kernel
theorem dX10_draft_41 : decode cX10_draft 41 = .ok (.iconst 1, 1) := by decide +kernel
theorem dX10_draft_42 : decode cX10_draft 42 = .ok (.iadd, 1) := by decide +kernel
theorem dX10_draft_43 : decode cX10_draft 43 = .ok (.putfield 232, 3) := by decide +kernel
theorem dX10_draft_46 : decode cX10_draft 46 = .ok (.aload_n 0, 1) := by decide +kernel
theorem dX10_draft_47 : decode cX10_draft 47 = .ok (.getfield 232, 3) := by decide +kernel
theorem dX10_draft_50 : decode cX10_draft 50 = .ok (.ireturn, 1) := by decide +kernel
theorem dX10_check_0 : decode cX10_check 0 = .ok (.aload_n 0, 1) := by decide +kernel
theorem dX10_check_1 : decode cX10_check 1 = .ok (.getfield 232, 3) := by decide +kernel
theorem dX10_check_4 : decode cX10_check 4 = .ok (.istore_n 1, 1) := by decide +kernel
theorem dX10_check_5 : decode cX10_check 5 = .ok (.aload_n 0, 1) := by decide +kernel
theorem dX10_check_6 : decode cX10_check 6 = .ok (.iconst 0, 1) := by decide +kernel
theorem dX10_check_7 : decode cX10_check 7 = .ok (.putfield 232, 3) := by decide +kernel
theorem dX10_check_10 : decode cX10_check 10 = .ok (.aload_n 0, 1) := by decide +kernel
theorem dX10_check_11 : decode cX10_check 11 = .ok (.invokevirtual 174, 3) := by decide +kernel
theorem dX10_check_14 : decode cX10_check 14 = .ok (.istore_n 2, 1) := by decide +kernel
theorem dX10_check_15 : decode cX10_check 15 = .ok (.iload_n 2, 1) := by decide +kernel
theorem dX10_check_16 : decode cX10_check 16 = .ok (.ifCond .eq 5, 3) := by decide +kernel
theorem dX10_check_19 : decode cX10_check 19 = .ok (.iload_n 2, 1) := by decide +kernel
theorem dX10_check_20 : decode cX10_check 20 = .ok (.ireturn, 1) := by decide +kernel
theorem dX10_check_21 : decode cX10_check 21 = .ok (.aload_n 0, 1) := by decide +kernel
theorem dX10_check_22 : decode cX10_check 22 = .ok (.getfield 26, 3) := by decide +kernel
theorem dX10_check_25 : decode cX10_check 25 = .ok (.aload_n 0, 1) := by decide +kernel
theorem dX10_check_26 : decode cX10_check 26 = .ok (.getfield 65, 3) := by decide +kernel
theorem dX10_check_29 : decode cX10_check 29 = .ok (.iload_n 1, 1) := by decide +kernel
theorem dX10_check_30 : decode cX10_check 30 = .ok (.invokevirtual 235, 3) := by decide +kernel
theorem dX10_check_33 : decode cX10_check 33 = .ok (.istore_n 3, 1) := by decide +kernel
theorem dX10_check_34 : decode cX10_check 34 = .ok (.iload_n 3, 1) := by decide +kernel
theorem dX10_check_35 : decode cX10_check 35 = .ok (.ifCond .lt 10, 3) := by decide +kernel
theorem dX10_check_38 : decode cX10_check 38 = .ok (.bipush (-10), 2) := by decide +kernel
theorem dX10_check_40 : decode cX10_check 40 = .ok (.iload_n 3, 1) := by decide +kernel
theorem dX10_check_41 : decode cX10_check 41 = .ok (.isub, 1) := by decide +kernel
theorem dX10_check_42 : decode cX10_check 42 = .ok (.goto 15, 3) := by decide +kernel
theorem dX10_check_45 : decode cX10_check 45 = .ok (.aload_n 0, 1) := by decide +kernel
theorem dX10_check_46 : decode cX10_check 46 = .ok (.getfield 26, 3) := by decide +kernel
theorem dX10_check_49 : decode cX10_check 49 = .ok (.aload_n 0, 1) := by decide +kernel
theorem dX10_check_50 : decode cX10_check 50 = .ok (.getfield 65, 3) := by decide +kernel
theorem dX10_check_53 : decode cX10_check 53 = .ok (.iload_n 1, 1) := by decide +kernel
theorem dX10_check_54 : decode cX10_check 54 = .ok (.invokevirtual 197, 3) := by decide +kernel
theorem dX10_check_57 : decode cX10_check 57 = .ok (.ireturn, 1) := by decide +kernel
theorem dX10_time_0 : decode cX10_time 0 = .ok (.aload_n 0, 1) := by decide +kernel
theorem dX10_time_1 : decode cX10_time 1 = .ok (.getfield 10, 3) := by decide +kernel
theorem dX10_time_4 : decode cX10_time 4 = .ok (.iload_n 1, 1) := by decide +kernel
theorem dX10_time_5 : decode cX10_time 5 = .ok (.invokevirtual 87, 3) := by decide +kernel
theorem dX10_time_8 : decode cX10_time 8 = .ok (.astore_n 3, 1) := by decide +kernel
theorem dX10_time_9 : decode cX10_time 9 = .ok (.aload_n 3, 1) := by decide +kernel
theorem dX10_time_10 : decode cX10_time 10 = .ok (.ifnull 14, 3) := by decide +kernel
theorem dX10_time_13 : decode cX10_time 13 = .ok (.iload_n 2, 1) := by decide +kernel
theorem dX10_time_14 : decode cX10_time 14 = .ok (.ifCond .lt 10, 3) := by decide +kernel
theorem dX10_time_17 : decode cX10_time 17 = .ok (.iload_n 2, 1) := by decide +kernel
theorem dX10_time_18 : decode cX10_time 18 = .ok (.sipush 1000, 3) := by decide +kernel
theorem dX10_time_21 : decode cX10_time 21 = .ok (.if_icmp .le 5, 3) := by decide +kernel
theorem dX10_time_24 : decode cX10_time 24 = .ok (.iconst (-1), 1) := by decide +kernel
theorem dX10_time_25 : decode cX10_time 25 = .ok (.ireturn, 1) := by decide +kernel
theorem dX10_time_26 : decode cX10_time 26 = .ok (.aload_n 3, 1) := by decide +kernel
theorem dX10_time_27 : decode cX10_time 27 = .ok (.getfield 238, 3) := by decide +kernel
theorem dX10_time_30 : decode cX10_time 30 = .ok (.istore 4, 2) := by decide +kernel
theorem dX10_time_32 : decode cX10_time 32 = .ok (.aload_n 3, 1) := by decide +kernel
theorem dX10_time_33 : decode cX10_time 33 = .ok (.iload_n 2, 1) := by decide +kernel
theorem dX10_time_34 : decode cX10_time 34 = .ok (.putfield 238, 3) := by decide +kernel
theorem dX10_time_37 : decode cX10_time 37 = .ok (.aload_n 0, 1) := by decide +kernel
theorem dX10_time_38 : decode cX10_time 38 = .ok (.getfield 54, 3) := by decide +kernel
theorem dX10_time_41 : decode cX10_time 41 = .ok (.invokevirtual 241, 3) := by decide +kernel
theorem dX10_time_44 : decode cX10_time 44 = .ok (.iload 4, 2) := by decide +kernel
theorem dX10_time_46 : decode cX10_time 46 = .ok (.ireturn, 1) := by decide +kernel
theorem dX10_beat_0 : decode cX10_beat 0 = .ok (.aload_n 0, 1) := by decide +kernel
theorem dX10_beat_1 : decode cX10_beat 1 = .ok (.invokevirtual 184, 3) := by decide +kernel
theorem dX10_beat_4 : decode cX10_beat 4 = .ok (.istore_n 2, 1) := by decide +kernel
theorem dX10_beat_5 : decode cX10_beat 5 = .ok (.iload_n 2, 1) := by decide +kernel
theorem dX10_beat_6 : decode cX10_beat 6 = .ok (.ifCond .eq 5, 3) := by decide +kernel
theorem dX10_beat_9 : decode cX10_beat 9 = .ok (.iload_n 2, 1) := by decide +kernel
theorem dX10_beat_10 : decode cX10_beat 10 = .ok (.ireturn, 1) := by decide +kernel
theorem dX10_beat_11 : decode cX10_beat 11 = .ok (.aload_n 0, 1) := by decide +kernel
theorem dX10_beat_12 : decode cX10_beat 12 = .ok (.getfield 10, 3) := by decide +kernel
theorem dX10_beat_15 : decode cX10_beat 15 = .ok (.getfield 167, 3) := by decide +kernel
theorem dX10_beat_18 : decode cX10_beat 18 = .ok (.bipush 60, 2) := by decide +kernel
theorem dX10_beat_20 : decode cX10_beat 20 = .ok (.if_icmp .le 6, 3) := by decide +kernel
theorem dX10_beat_23 : decode cX10_beat 23 = .ok (.bipush (-4), 2) := by decide +kernel
theorem dX10_beat_25 : decode cX10_beat 25 = .ok (.ireturn, 1) := by decide +kernel
theorem dX10_beat_26 : decode cX10_beat 26 = .ok (.aload_n 0, 1) := by decide +kernel
theorem dX10_beat_27 : decode cX10_beat 27 = .ok (.getfield 54, 3) := by decide +kernel
theorem dX10_beat_30 : decode cX10_beat 30 = .ok (.invokevirtual 244, 3) := by decide +kernel
theorem dX10_beat_33 : decode cX10_beat 33 = .ok (.iload_n 1, 1) := by decide +kernel
theorem dX10_beat_34 : decode cX10_beat 34 = .ok (.ifCond .eq 13, 3) := by decide +kernel
theorem dX10_beat_37 : decode cX10_beat 37 = .ok (.aload_n 0, 1) := by decide +kernel
theorem dX10_beat_38 : decode cX10_beat 38 = .ok (.getfield 54, 3) := by decide +kernel
theorem dX10_beat_41 : decode cX10_beat 41 = .ok (.getfield 247, 3) := by decide +kernel
theorem dX10_beat_44 : decode cX10_beat 44 = .ok (.goto 10, 3) := by decide +kernel
theorem dX10_beat_47 : decode cX10_beat 47 = .ok (.aload_n 0, 1) := by decide +kernel
theorem dX10_beat_48 : decode cX10_beat 48 = .ok (.getfield 54, 3) := by decide +kernel
theorem dX10_beat_51 : decode cX10_beat 51 = .ok (.getfield 251, 3) := by decide +kernel
theorem dX10_beat_54 : decode cX10_beat 54 = .ok (.l2i, 1) := by decide +kernel
theorem dX10_beat_55 : decode cX10_beat 55 = .ok (.ireturn, 1) := by decide +kernel
theorem dX10_may_0 : decode cX10_may 0 = .ok (.aload_n 0, 1) := by decide +kernel
theorem dX10_may_1 : decode cX10_may 1 = .ok (.getfield 10, 3) := by decide +kernel
theorem dX10_may_4 : decode cX10_may 4 = .ok (.iload_n 1, 1) := by decide +kernel
theorem dX10_may_5 : decode cX10_may 5 = .ok (.invokevirtual 87, 3) := by decide +kernel
theorem dX10_may_8 : decode cX10_may 8 = .ok (.astore_n 2, 1) := by decide +kernel
theorem dX10_may_9 : decode cX10_may 9 = .ok (.aload_n 2, 1) := by decide +kernel
theorem dX10_may_10 : decode cX10_may 10 = .ok (.ifnonnull 5, 3) := by decide +kernel
theorem dX10_may_13 : decode cX10_may 13 = .ok (.iconst (-1), 1) := by decide +kernel
theorem dX10_may_14 : decode cX10_may 14 = .ok (.ireturn, 1) := by decide +kernel
theorem dX10_may_15 : decode cX10_may 15 = .ok (.aload_n 0, 1) := by decide +kernel
theorem dX10_may_16 : decode cX10_may 16 = .ok (.getfield 61, 3) := by decide +kernel
theorem dX10_may_19 : decode cX10_may 19 = .ok (.aload_n 2, 1) := by decide +kernel
theorem dX10_may_20 : decode cX10_may 20 = .ok (.invokevirtual 254, 3) := by decide +kernel
theorem dX10_may_23 : decode cX10_may 23 = .ok (.ifCond .eq 7, 3) := by decide +kernel
theorem dX10_may_26 : decode cX10_may 26 = .ok (.iconst 1, 1) := by decide +kernel
theorem dX10_may_27 : decode cX10_may 27 = .ok (.goto 4, 3) := by decide +kernel
theorem dX10_may_30 : decode cX10_may 30 = .ok (.iconst 0, 1) := by decide +kernel
theorem dX10_may_31 : decode cX10_may 31 = .ok (.ireturn, 1) := by decide +kernel
theorem dX10_fire_0 : decode cX10_fire 0 = .ok (.aload_n 0, 1) := by decide +kernel
theorem dX10_fire_1 : decode cX10_fire 1 = .ok (.getfield 10, 3) := by decide +kernel
theorem dX10_fire_4 : decode cX10_fire 4 = .ok (.iload_n 1, 1) := by decide +kernel
theorem dX10_fire_5 : decode cX10_fire 5 = .ok (.invokevirtual 87, 3) := by decide +kernel
theorem dX10_fire_8 : decode cX10_fire 8 = .ok (.astore_n 2, 1) := by decide +kernel
theorem dX10_fire_9 : decode cX10_fire 9 = .ok (.aload_n 2, 1) := by decide +kernel
theorem dX10_fire_10 : decode cX10_fire 10 = .ok (.ifnonnull 7, 3) := by decide +kernel
theorem dX10_fire_13 : decode cX10_fire 13 = .ok (.iconst (-1), 1) := by decide +kernel
theorem dX10_fire_14 : decode cX10_fire 14 = .ok (.goto 15, 3) := by decide +kernel
theorem dX10_fire_17 : decode cX10_fire 17 = .ok (.aload_n 0, 1) := by decide +kernel
theorem dX10_fire_18 : decode cX10_fire 18 = .ok (.aload_n 0, 1) := by decide +kernel
theorem dX10_fire_19 : decode cX10_fire 19 = .ok (.getfield 61, 3) := by decide +kernel
theorem dX10_fire_22 : decode cX10_fire 22 = .ok (.aload_n 2, 1) := by decide +kernel
theorem dX10_fire_23 : decode cX10_fire 23 = .ok (.invokevirtual 258, 3) := by decide +kernel
theorem dX10_fire_26 : decode cX10_fire 26 = .ok (.invokevirtual 262, 3) := by decide +kernel
theorem dX10_fire_29 : decode cX10_fire 29 = .ok (.ireturn, 1) := by decide +kernel
theorem dX10_gave_0 : decode cX10_gave 0 = .ok (.aload_n 0, 1) := by decide +kernel
theorem dX10_gave_1 : decode cX10_gave 1 = .ok (.getfield 61, 3) := by decide +kernel
theorem dX10_gave_4 : decode cX10_gave 4 = .ok (.getfield 265, 3) := by decide +kernel
theorem dX10_gave_7 : decode cX10_gave 7 = .ok (.lreturn, 1) := by decide +kernel
theorem dX10_trace_0 : decode cX10_trace 0 = .ok (.aload_n 0, 1) := by decide +kernel
theorem dX10_trace_1 : decode cX10_trace 1 = .ok (.getfield 61, 3) := by decide +kernel
theorem dX10_trace_4 : decode cX10_trace 4 = .ok (.iload_n 1, 1) := by decide +kernel
theorem dX10_trace_5 : decode cX10_trace 5 = .ok (.invokevirtual 268, 3) := by decide +kernel
theorem dX10_trace_8 : decode cX10_trace 8 = .ok (.ireturn, 1) := by decide +kernel
theorem dX10_deal_0 : decode cX10_deal 0 = .ok (.aload_n 0, 1) := by decide +kernel
theorem dX10_deal_1 : decode cX10_deal 1 = .ok (.getfield 10, 3) := by decide +kernel
theorem dX10_deal_4 : decode cX10_deal 4 = .ok (.iload_n 1, 1) := by decide +kernel
theorem dX10_deal_5 : decode cX10_deal 5 = .ok (.invokevirtual 87, 3) := by decide +kernel
theorem dX10_deal_8 : decode cX10_deal 8 = .ok (.astore_n 3, 1) := by decide +kernel
theorem dX10_deal_9 : decode cX10_deal 9 = .ok (.aload_n 3, 1) := by decide +kernel
theorem dX10_deal_10 : decode cX10_deal 10 = .ok (.ifnull 12, 3) := by decide +kernel
theorem dX10_deal_13 : decode cX10_deal 13 = .ok (.iload_n 2, 1) := by decide +kernel
theorem dX10_deal_14 : decode cX10_deal 14 = .ok (.ifCond .lt 8, 3) := by decide +kernel
theorem dX10_deal_17 : decode cX10_deal 17 = .ok (.iload_n 2, 1) := by decide +kernel
theorem dX10_deal_18 : decode cX10_deal 18 = .ok (.iconst 4, 1) := by decide +kernel
theorem dX10_deal_19 : decode cX10_deal 19 = .ok (.if_icmp .lt 5, 3) := by decide +kernel
theorem dX10_deal_22 : decode cX10_deal 22 = .ok (.iconst (-1), 1) := by decide +kernel
theorem dX10_deal_23 : decode cX10_deal 23 = .ok (.ireturn, 1) := by decide +kernel
theorem dX10_deal_24 : decode cX10_deal 24 = .ok (.aload_n 3, 1) := by decide +kernel
theorem dX10_deal_25 : decode cX10_deal 25 = .ok (.getfield 271, 3) := by decide +kernel
theorem dX10_deal_28 : decode cX10_deal 28 = .ok (.istore 4, 2) := by decide +kernel
theorem dX10_deal_30 : decode cX10_deal 30 = .ok (.aload_n 3, 1) := by decide +kernel
theorem dX10_deal_31 : decode cX10_deal 31 = .ok (.iload_n 2, 1) := by decide +kernel
theorem dX10_deal_32 : decode cX10_deal 32 = .ok (.putfield 271, 3) := by decide +kernel
theorem dX10_deal_35 : decode cX10_deal 35 = .ok (.aload_n 0, 1) := by decide +kernel
theorem dX10_deal_36 : decode cX10_deal 36 = .ok (.getfield 26, 3) := by decide +kernel
theorem dX10_deal_39 : decode cX10_deal 39 = .ok (.invokevirtual 274, 3) := by decide +kernel
theorem dX10_deal_42 : decode cX10_deal 42 = .ok (.iload 4, 2) := by decide +kernel
theorem dX10_deal_44 : decode cX10_deal 44 = .ok (.ireturn, 1) := by decide +kernel
theorem dX10_go_0 : decode cX10_go 0 = .ok (.iload_n 1, 1) := by decide +kernel
theorem dX10_go_1 : decode cX10_go 1 = .ok (.ifCond .lt 8, 3) := by decide +kernel
theorem dX10_go_4 : decode cX10_go 4 = .ok (.iload_n 1, 1) := by decide +kernel
theorem dX10_go_5 : decode cX10_go 5 = .ok (.iconst 4, 1) := by decide +kernel
theorem dX10_go_6 : decode cX10_go 6 = .ok (.if_icmp .lt 5, 3) := by decide +kernel
theorem dX10_go_9 : decode cX10_go 9 = .ok (.iconst (-1), 1) := by decide +kernel
theorem dX10_go_10 : decode cX10_go 10 = .ok (.ireturn, 1) := by decide +kernel
theorem dX10_go_11 : decode cX10_go 11 = .ok (.aload_n 0, 1) := by decide +kernel
theorem dX10_go_12 : decode cX10_go 12 = .ok (.getfield 26, 3) := by decide +kernel
theorem dX10_go_15 : decode cX10_go 15 = .ok (.iload_n 1, 1) := by decide +kernel
theorem dX10_go_16 : decode cX10_go 16 = .ok (.invokevirtual 277, 3) := by decide +kernel
theorem dX10_go_19 : decode cX10_go 19 = .ok (.istore_n 2, 1) := by decide +kernel
theorem dX10_go_20 : decode cX10_go 20 = .ok (.aload_n 0, 1) := by decide +kernel
theorem dX10_go_21 : decode cX10_go 21 = .ok (.getfield 26, 3) := by decide +kernel
theorem dX10_go_24 : decode cX10_go 24 = .ok (.iload_n 2, 1) := by decide +kernel
theorem dX10_go_25 : decode cX10_go 25 = .ok (.invokevirtual 219, 3) := by decide +kernel
theorem dX10_go_28 : decode cX10_go 28 = .ok (.ifCond .ne 6, 3) := by decide +kernel
theorem dX10_go_31 : decode cX10_go 31 = .ok (.bipush (-4), 2) := by decide +kernel
theorem dX10_go_33 : decode cX10_go 33 = .ok (.ireturn, 1) := by decide +kernel
theorem dX10_go_34 : decode cX10_go 34 = .ok (.aload_n 0, 1) := by decide +kernel
theorem dX10_go_35 : decode cX10_go 35 = .ok (.getfield 10, 3) := by decide +kernel
theorem dX10_go_38 : decode cX10_go 38 = .ok (.aload_n 0, 1) := by decide +kernel
theorem dX10_go_39 : decode cX10_go 39 = .ok (.getfield 26, 3) := by decide +kernel
theorem dX10_go_42 : decode cX10_go 42 = .ok (.getfield 210, 3) := by decide +kernel
theorem dX10_go_45 : decode cX10_go 45 = .ok (.iload_n 2, 1) := by decide +kernel
theorem dX10_go_46 : decode cX10_go 46 = .ok (.iaload, 1) := by decide +kernel
theorem dX10_go_47 : decode cX10_go 47 = .ok (.invokevirtual 87, 3) := by decide +kernel
theorem dX10_go_50 : decode cX10_go 50 = .ok (.astore_n 3, 1) := by decide +kernel
theorem dX10_go_51 : decode cX10_go 51 = .ok (.aload_n 3, 1) := by decide +kernel
theorem dX10_go_52 : decode cX10_go 52 = .ok (.ifnonnull 6, 3) := by decide +kernel
theorem dX10_go_55 : decode cX10_go 55 = .ok (.bipush (-4), 2) := by decide +kernel
theorem dX10_go_57 : decode cX10_go 57 = .ok (.ireturn, 1) := by decide +kernel
theorem dX10_go_58 : decode cX10_go 58 = .ok (.aload_n 0, 1) := by decide +kernel
theorem dX10_go_59 : decode cX10_go 59 = .ok (.aload_n 0, 1) := by decide +kernel
theorem dX10_go_60 : decode cX10_go 60 = .ok (.getfield 61, 3) := by decide +kernel
theorem dX10_go_63 : decode cX10_go 63 = .ok (.aload_n 3, 1) := by decide +kernel
theorem dX10_go_64 : decode cX10_go 64 = .ok (.invokevirtual 258, 3) := by decide +kernel
theorem dX10_go_67 : decode cX10_go 67 = .ok (.invokevirtual 262, 3) := by decide +kernel
theorem dX10_go_70 : decode cX10_go 70 = .ok (.istore 4, 2) := by decide +kernel
theorem dX10_go_72 : decode cX10_go 72 = .ok (.iload 4, 2) := by decide +kernel
theorem dX10_go_74 : decode cX10_go 74 = .ok (.iconst 1, 1) := by decide +kernel
theorem dX10_go_75 : decode cX10_go 75 = .ok (.if_icmp .ne 20, 3) := by decide +kernel
theorem dX10_go_78 : decode cX10_go 78 = .ok (.aload_n 0, 1) := by decide +kernel
theorem dX10_go_79 : decode cX10_go 79 = .ok (.getfield 26, 3) := by decide +kernel
theorem dX10_go_82 : decode cX10_go 82 = .ok (.getfield 280, 3) := by decide +kernel
theorem dX10_go_85 : decode cX10_go 85 = .ok (.iload_n 1, 1) := by decide +kernel
theorem dX10_go_86 : decode cX10_go 86 = .ok (.iload_n 2, 1) := by decide +kernel
theorem dX10_go_87 : decode cX10_go 87 = .ok (.iconst 1, 1) := by decide +kernel
theorem dX10_go_88 : decode cX10_go 88 = .ok (.iadd, 1) := by decide +kernel
theorem dX10_go_89 : decode cX10_go 89 = .ok (.iastore, 1) := by decide +kernel
theorem dX10_go_90 : decode cX10_go 90 = .ok (.aload_n 3, 1) := by decide +kernel
theorem dX10_go_91 : decode cX10_go 91 = .ok (.getfield 283, 3) := by decide +kernel
theorem dX10_go_94 : decode cX10_go 94 = .ok (.ireturn, 1) := by decide +kernel
theorem dX10_go_95 : decode cX10_go 95 = .ok (.iload 4, 2) := by decide +kernel
theorem dX10_go_97 : decode cX10_go 97 = .ok (.ifCond .ne 8, 3) := by decide +kernel
theorem dX10_go_100 : decode cX10_go 100 = .ok (.bipush (-9), 2) := by decide +kernel
theorem dX10_go_102 : decode cX10_go 102 = .ok (.goto 5, 3) := by decide +kernel
theorem dX10_go_105 : decode cX10_go 105 = .ok (.iload 4, 2) := by decide +kernel
theorem dX10_go_107 : decode cX10_go 107 = .ok (.ireturn, 1) := by decide +kernel
theorem dX10_reset_0 : decode cX10_reset 0 = .ok (.aload_n 0, 1) := by decide +kernel
theorem dX10_reset_1 : decode cX10_reset 1 = .ok (.getfield 61, 3) := by decide +kernel
theorem dX10_reset_4 : decode cX10_reset 4 = .ok (.getfield 286, 3) := by decide +kernel
theorem dX10_reset_7 : decode cX10_reset 7 = .ok (.istore_n 1, 1) := by decide +kernel
theorem dX10_reset_8 : decode cX10_reset 8 = .ok (.aload_n 0, 1) := by decide +kernel
theorem dX10_reset_9 : decode cX10_reset 9 = .ok (.invokevirtual 135, 3) := by decide +kernel
theorem dX10_reset_12 : decode cX10_reset 12 = .ok (.iload_n 1, 1) := by decide +kernel
theorem dX10_reset_13 : decode cX10_reset 13 = .ok (.ireturn, 1) := by decide +kernel
theorem dX10_things_0 : decode cX10_things 0 = .ok (.aload_n 0, 1) := by decide +kernel
theorem dX10_things_1 : decode cX10_things 1 = .ok (.getfield 10, 3) := by decide +kernel
theorem dX10_things_4 : decode cX10_things 4 = .ok (.iload_n 1, 1) := by decide +kernel
theorem dX10_things_5 : decode cX10_things 5 = .ok (.invokevirtual 98, 3) := by decide +kernel
theorem dX10_things_8 : decode cX10_things 8 = .ok (.astore_n 2, 1) := by decide +kernel
theorem dX10_things_9 : decode cX10_things 9 = .ok (.aload_n 2, 1) := by decide +kernel
theorem dX10_things_10 : decode cX10_things 10 = .ok (.ifnonnull 7, 3) := by decide +kernel
theorem dX10_things_13 : decode cX10_things 13 = .ok (.iconst (-1), 1) := by decide +kernel
theorem dX10_things_14 : decode cX10_things 14 = .ok (.goto 7, 3) := by decide +kernel
theorem dX10_things_17 : decode cX10_things 17 = .ok (.aload_n 2, 1) := by decide +kernel
theorem dX10_things_18 : decode cX10_things 18 = .ok (.getfield 289, 3) := by decide +kernel
theorem dX10_things_21 : decode cX10_things 21 = .ok (.ireturn, 1) := by decide +kernel
theorem dX10_look_0 : decode cX10_look 0 = .ok (.aload_n 0, 1) := by decide +kernel
theorem dX10_look_1 : decode cX10_look 1 = .ok (.getfield 10, 3) := by decide +kernel
theorem dX10_look_4 : decode cX10_look 4 = .ok (.iload_n 1, 1) := by decide +kernel
theorem dX10_look_5 : decode cX10_look 5 = .ok (.invokevirtual 98, 3) := by decide +kernel
theorem dX10_look_8 : decode cX10_look 8 = .ok (.astore_n 3, 1) := by decide +kernel
theorem dX10_look_9 : decode cX10_look 9 = .ok (.aload_n 3, 1) := by decide +kernel
theorem dX10_look_10 : decode cX10_look 10 = .ok (.ifnonnull 5, 3) := by decide +kernel
theorem dX10_look_13 : decode cX10_look 13 = .ok (.iconst (-1), 1) := by decide +kernel
theorem dX10_look_14 : decode cX10_look 14 = .ok (.ireturn, 1) := by decide +kernel
theorem dX10_look_15 : decode cX10_look 15 = .ok (.iload_n 2, 1) := by decide +kernel
theorem dX10_look_16 : decode cX10_look 16 = .ok (.ifCond .lt 11, 3) := by decide +kernel
theorem dX10_look_19 : decode cX10_look 19 = .ok (.iload_n 2, 1) := by decide +kernel
theorem dX10_look_20 : decode cX10_look 20 = .ok (.aload_n 3, 1) := by decide +kernel
theorem dX10_look_21 : decode cX10_look 21 = .ok (.getfield 289, 3) := by decide +kernel
theorem dX10_look_24 : decode cX10_look 24 = .ok (.if_icmp .lt 9, 3) := by decide +kernel
theorem dX10_look_27 : decode cX10_look 27 = .ok (.aload_n 0, 1) := by decide +kernel
theorem dX10_look_28 : decode cX10_look 28 = .ok (.iconst 2, 1) := by decide +kernel
theorem dX10_look_29 : decode cX10_look 29 = .ok (.invokevirtual 76, 3) := by decide +kernel
theorem dX10_look_32 : decode cX10_look 32 = .ok (.ireturn, 1) := by decide +kernel
theorem dX10_look_33 : decode cX10_look 33 = .ok (.aload_n 0, 1) := by decide +kernel
theorem dX10_look_34 : decode cX10_look 34 = .ok (.aload_n 3, 1) := by decide +kernel
theorem dX10_look_35 : decode cX10_look 35 = .ok (.iload_n 2, 1) := by decide +kernel
theorem dX10_look_36 : decode cX10_look 36 = .ok (.invokevirtual 292, 3) := by decide +kernel
theorem dX10_look_39 : decode cX10_look 39 = .ok (.putfield 296, 3) := by decide +kernel
theorem dX10_look_42 : decode cX10_look 42 = .ok (.iconst 1, 1) := by decide +kernel
theorem dX10_look_43 : decode cX10_look 43 = .ok (.ireturn, 1) := by decide +kernel
theorem dX10_given_0 : decode cX10_given 0 = .ok (.aload_n 0, 1) := by decide +kernel
theorem dX10_given_1 : decode cX10_given 1 = .ok (.getfield 10, 3) := by decide +kernel
theorem dX10_given_4 : decode cX10_given 4 = .ok (.iload_n 1, 1) := by decide +kernel
theorem dX10_given_5 : decode cX10_given 5 = .ok (.invokevirtual 98, 3) := by decide +kernel
theorem dX10_given_8 : decode cX10_given 8 = .ok (.astore_n 3, 1) := by decide +kernel
theorem dX10_given_9 : decode cX10_given 9 = .ok (.aload_n 3, 1) := by decide +kernel
theorem dX10_given_10 : decode cX10_given 10 = .ok (.ifnull 14, 3) := by decide +kernel
theorem dX10_given_13 : decode cX10_given 13 = .ok (.iload_n 2, 1) := by decide +kernel
theorem dX10_given_14 : decode cX10_given 14 = .ok (.ifCond .lt 10, 3) := by decide +kernel
theorem dX10_given_17 : decode cX10_given 17 = .ok (.iload_n 2, 1) := by decide +kernel
theorem dX10_given_18 : decode cX10_given 18 = .ok (.sipush 200, 3) := by decide +kernel
theorem dX10_given_21 : decode cX10_given 21 = .ok (.if_icmp .lt 5, 3) := by decide +kernel
theorem dX10_given_24 : decode cX10_given 24 = .ok (.iconst (-1), 1) := by decide +kernel
theorem dX10_given_25 : decode cX10_given 25 = .ok (.ireturn, 1) := by decide +kernel
theorem dX10_given_26 : decode cX10_given 26 = .ok (.iload_n 2, 1) := by decide +kernel
theorem dX10_given_27 : decode cX10_given 27 = .ok (.aload_n 3, 1) := by decide +kernel
theorem dX10_given_28 : decode cX10_given 28 = .ok (.getfield 299, 3) := by decide +kernel
theorem dX10_given_31 : decode cX10_given 31 = .ok (.if_icmp .lt 6, 3) := by decide +kernel
theorem dX10_given_34 : decode cX10_given 34 = .ok (.bipush (-9), 2) := by decide +kernel
theorem dX10_given_36 : decode cX10_given 36 = .ok (.ireturn, 1) := by decide +kernel
theorem dX10_given_37 : decode cX10_given 37 = .ok (.aload_n 0, 1) := by decide +kernel
theorem dX10_given_38 : decode cX10_given 38 = .ok (.aload_n 3, 1) := by decide +kernel
theorem dX10_given_39 : decode cX10_given 39 = .ok (.getfield 302, 3) := by decide +kernel
theorem dX10_given_42 : decode cX10_given 42 = .ok (.iload_n 2, 1) := by decide +kernel
theorem dX10_given_43 : decode cX10_given 43 = .ok (.laload, 1) := by decide +kernel
theorem dX10_given_44 : decode cX10_given 44 = .ok (.putfield 296, 3) := by decide +kernel
theorem dX10_given_47 : decode cX10_given 47 = .ok (.iconst 1, 1) := by decide +kernel
theorem dX10_given_48 : decode cX10_given 48 = .ok (.ireturn, 1) := by decide +kernel
theorem dX10_asked_0 : decode cX10_asked 0 = .ok (.aload_n 0, 1) := by decide +kernel
theorem dX10_asked_1 : decode cX10_asked 1 = .ok (.getfield 296, 3) := by decide +kernel
theorem dX10_asked_4 : decode cX10_asked 4 = .ok (.lreturn, 1) := by decide +kernel
theorem dX10_many_0 : decode cX10_many 0 = .ok (.iload_n 1, 1) := by decide +kernel
theorem dX10_many_1 : decode cX10_many 1 = .ok (.tableswitch 87 0 4 #[35, 43, 51, 59, 82], 35) := by decide +kernel
theorem dX10_many_36 : decode cX10_many 36 = .ok (.aload_n 0, 1) := by decide +kernel
theorem dX10_many_37 : decode cX10_many 37 = .ok (.getfield 10, 3) := by decide +kernel
theorem dX10_many_40 : decode cX10_many 40 = .ok (.getfield 72, 3) := by decide +kernel
theorem dX10_many_43 : decode cX10_many 43 = .ok (.ireturn, 1) := by decide +kernel
theorem dX10_many_44 : decode cX10_many 44 = .ok (.aload_n 0, 1) := by decide +kernel
theorem dX10_many_45 : decode cX10_many 45 = .ok (.getfield 10, 3) := by decide +kernel
theorem dX10_many_48 : decode cX10_many 48 = .ok (.getfield 91, 3) := by decide +kernel
theorem dX10_many_51 : decode cX10_many 51 = .ok (.ireturn, 1) := by decide +kernel
theorem dX10_many_52 : decode cX10_many 52 = .ok (.aload_n 0, 1) := by decide +kernel
theorem dX10_many_53 : decode cX10_many 53 = .ok (.getfield 61, 3) := by decide +kernel
theorem dX10_many_56 : decode cX10_many 56 = .ok (.getfield 286, 3) := by decide +kernel
theorem dX10_many_59 : decode cX10_many 59 = .ok (.ireturn, 1) := by decide +kernel
theorem dX10_many_60 : decode cX10_many 60 = .ok (.aload_n 0, 1) := by decide +kernel
theorem dX10_many_61 : decode cX10_many 61 = .ok (.getfield 26, 3) := by decide +kernel
theorem dX10_many_64 : decode cX10_many 64 = .ok (.getfield 222, 3) := by decide +kernel
theorem dX10_many_67 : decode cX10_many 67 = .ok (.ifCond .ne 8, 3) := by decide +kernel
theorem dX10_many_70 : decode cX10_many 70 = .ok (.bipush (-9), 2) := by decide +kernel
theorem dX10_many_72 : decode cX10_many 72 = .ok (.goto 10, 3) := by decide +kernel
theorem dX10_many_75 : decode cX10_many 75 = .ok (.aload_n 0, 1) := by decide +kernel
theorem dX10_many_76 : decode cX10_many 76 = .ok (.getfield 26, 3) := by decide +kernel
theorem dX10_many_79 : decode cX10_many 79 = .ok (.getfield 222, 3) := by decide +kernel
theorem dX10_many_82 : decode cX10_many 82 = .ok (.ireturn, 1) := by decide +kernel
theorem dX10_many_83 : decode cX10_many 83 = .ok (.aload_n 0, 1) := by decide +kernel
theorem dX10_many_84 : decode cX10_many 84 = .ok (.getfield 232, 3) := by decide +kernel
theorem dX10_many_87 : decode cX10_many 87 = .ok (.ireturn, 1) := by decide +kernel
theorem dX10_many_88 : decode cX10_many 88 = .ok (.iconst (-1), 1) := by decide +kernel
theorem dX10_many_89 : decode cX10_many 89 = .ok (.ireturn, 1) := by decide +kernel
theorem dX10_finding_0 : decode cX10_finding 0 = .ok (.aload_n 0, 1) := by decide +kernel
theorem dX10_finding_1 : decode cX10_finding 1 = .ok (.getfield 305, 3) := by decide +kernel
theorem dX10_finding_4 : decode cX10_finding 4 = .ok (.ireturn, 1) := by decide +kernel
theorem dX10_findings_0 : decode cX10_findings 0 = .ok (.iload_n 1, 1) := by decide +kernel
theorem dX10_findings_1 : decode cX10_findings 1 = .ok (.iconst 1, 1) := by decide +kernel
theorem dX10_findings_2 : decode cX10_findings 2 = .ok (.if_icmp .lt 8, 3) := by decide +kernel
theorem dX10_findings_5 : decode cX10_findings 5 = .ok (.iload_n 1, 1) := by decide +kernel
theorem dX10_findings_6 : decode cX10_findings 6 = .ok (.iconst 5, 1) := by decide +kernel
theorem dX10_findings_7 : decode cX10_findings 7 = .ok (.if_icmp .le 7, 3) := by decide +kernel
theorem dX10_findings_10 : decode cX10_findings 10 = .ok (.iconst (-1), 1) := by decide +kernel
theorem dX10_findings_11 : decode cX10_findings 11 = .ok (.goto 9, 3) := by decide +kernel
theorem dX10_findings_14 : decode cX10_findings 14 = .ok (.aload_n 0, 1) := by decide +kernel
theorem dX10_findings_15 : decode cX10_findings 15 = .ok (.getfield 69, 3) := by decide +kernel
theorem dX10_findings_18 : decode cX10_findings 18 = .ok (.iload_n 1, 1) := by decide +kernel
theorem dX10_findings_19 : decode cX10_findings 19 = .ok (.iaload, 1) := by decide +kernel
theorem dX10_findings_20 : decode cX10_findings 20 = .ok (.ireturn, 1) := by decide +kernel
theorem dX10_digest_0 : decode cX10_digest 0 = .ok (.ldc2_w 308, 3) := by decide +kernel
theorem dX10_digest_3 : decode cX10_digest 3 = .ok (.lstore_n 1, 1) := by decide +kernel
theorem dX10_digest_4 : decode cX10_digest 4 = .ok (.iconst 0, 1) := by decide +kernel
theorem dX10_digest_5 : decode cX10_digest 5 = .ok (.istore_n 3, 1) := by decide +kernel
theorem dX10_digest_6 : decode cX10_digest 6 = .ok (.iload_n 3, 1) := by decide +kernel
theorem dX10_digest_7 : decode cX10_digest 7 = .ok (.aload_n 0, 1) := by decide +kernel
theorem dX10_digest_8 : decode cX10_digest 8 = .ok (.getfield 10, 3) := by decide +kernel
theorem dX10_digest_11 : decode cX10_digest 11 = .ok (.getfield 72, 3) := by decide +kernel
theorem dX10_digest_14 : decode cX10_digest 14 = .ok (.if_icmp .ge 23, 3) := by decide +kernel
theorem dX10_digest_17 : decode cX10_digest 17 = .ok (.aload_n 0, 1) := by decide +kernel
theorem dX10_digest_18 : decode cX10_digest 18 = .ok (.getfield 10, 3) := by decide +kernel
theorem dX10_digest_21 : decode cX10_digest 21 = .ok (.getfield 310, 3) := by decide +kernel
theorem dX10_digest_24 : decode cX10_digest 24 = .ok (.iload_n 3, 1) := by decide +kernel
theorem dX10_digest_25 : decode cX10_digest 25 = .ok (.aaload, 1) := by decide +kernel
theorem dX10_digest_26 : decode cX10_digest 26 = .ok (.lload_n 1, 1) := by decide +kernel
theorem dX10_digest_27 : decode cX10_digest 27 = .ok (.invokevirtual 314, 3) := by decide +kernel
theorem dX10_digest_30 : decode cX10_digest 30 = .ok (.lstore_n 1, 1) := by decide +kernel
theorem dX10_digest_31 : decode cX10_digest 31 = .ok (.iinc 3 1, 3) := by decide +kernel
theorem dX10_digest_34 : decode cX10_digest 34 = .ok (.goto (-28), 3) := by decide +kernel
theorem dX10_digest_37 : decode cX10_digest 37 = .ok (.iconst 0, 1) := by decide +kernel
theorem dX10_digest_38 : decode cX10_digest 38 = .ok (.istore_n 3, 1) := by decide +kernel
theorem dX10_digest_39 : decode cX10_digest 39 = .ok (.iload_n 3, 1) := by decide +kernel
theorem dX10_digest_40 : decode cX10_digest 40 = .ok (.aload_n 0, 1) := by decide +kernel
theorem dX10_digest_41 : decode cX10_digest 41 = .ok (.getfield 10, 3) := by decide +kernel
theorem dX10_digest_44 : decode cX10_digest 44 = .ok (.getfield 91, 3) := by decide +kernel
theorem dX10_digest_47 : decode cX10_digest 47 = .ok (.if_icmp .ge 23, 3) := by decide +kernel
theorem dX10_digest_50 : decode cX10_digest 50 = .ok (.aload_n 0, 1) := by decide +kernel
theorem dX10_digest_51 : decode cX10_digest 51 = .ok (.getfield 10, 3) := by decide +kernel
theorem dX10_digest_54 : decode cX10_digest 54 = .ok (.getfield 318, 3) := by decide +kernel
theorem dX10_digest_57 : decode cX10_digest 57 = .ok (.iload_n 3, 1) := by decide +kernel
theorem dX10_digest_58 : decode cX10_digest 58 = .ok (.aaload, 1) := by decide +kernel
theorem dX10_digest_59 : decode cX10_digest 59 = .ok (.lload_n 1, 1) := by decide +kernel
theorem dX10_digest_60 : decode cX10_digest 60 = .ok (.invokevirtual 322, 3) := by decide +kernel
theorem dX10_digest_63 : decode cX10_digest 63 = .ok (.lstore_n 1, 1) := by decide +kernel
theorem dX10_digest_64 : decode cX10_digest 64 = .ok (.iinc 3 1, 3) := by decide +kernel
theorem dX10_digest_67 : decode cX10_digest 67 = .ok (.goto (-28), 3) := by decide +kernel
theorem dX10_digest_70 : decode cX10_digest 70 = .ok (.iconst 0, 1) := by decide +kernel
theorem dX10_digest_71 : decode cX10_digest 71 = .ok (.istore_n 3, 1) := by decide +kernel
theorem dX10_digest_72 : decode cX10_digest 72 = .ok (.iload_n 3, 1) := by decide +kernel
theorem dX10_digest_73 : decode cX10_digest 73 = .ok (.aload_n 0, 1) := by decide +kernel
theorem dX10_digest_74 : decode cX10_digest 74 = .ok (.getfield 26, 3) := by decide +kernel
theorem dX10_digest_77 : decode cX10_digest 77 = .ok (.getfield 222, 3) := by decide +kernel
theorem dX10_digest_80 : decode cX10_digest 80 = .ok (.if_icmp .ge 26, 3) := by decide +kernel
theorem dX10_digest_83 : decode cX10_digest 83 = .ok (.ldc2_w 323, 3) := by decide +kernel
theorem dX10_digest_86 : decode cX10_digest 86 = .ok (.lload_n 1, 1) := by decide +kernel
theorem dX10_digest_87 : decode cX10_digest 87 = .ok (.lmul, 1) := by decide +kernel
theorem dX10_digest_88 : decode cX10_digest 88 = .ok (.aload_n 0, 1) := by decide +kernel
theorem dX10_digest_89 : decode cX10_digest 89 = .ok (.getfield 26, 3) := by decide +kernel
theorem dX10_digest_92 : decode cX10_digest 92 = .ok (.getfield 210, 3) := by decide +kernel
theorem dX10_digest_95 : decode cX10_digest 95 = .ok (.iload_n 3, 1) := by decide +kernel
theorem dX10_digest_96 : decode cX10_digest 96 = .ok (.iaload, 1) := by decide +kernel
theorem dX10_digest_97 : decode cX10_digest 97 = .ok (.i2l, 1) := by decide +kernel
theorem dX10_digest_98 : decode cX10_digest 98 = .ok (.ladd, 1) := by decide +kernel
theorem dX10_digest_99 : decode cX10_digest 99 = .ok (.lstore_n 1, 1) := by decide +kernel
theorem dX10_digest_100 : decode cX10_digest 100 = .ok (.iinc 3 1, 3) := by decide +kernel
theorem dX10_digest_103 : decode cX10_digest 103 = .ok (.goto (-31), 3) := by decide +kernel
theorem dX10_digest_106 : decode cX10_digest 106 = .ok (.lload_n 1, 1) := by decide +kernel
theorem dX10_digest_107 : decode cX10_digest 107 = .ok (.lreturn, 1) := by decide +kernel
theorem dX10_meets_0 : decode cX10_meets 0 = .ok (.aload_n 0, 1) := by decide +kernel
theorem dX10_meets_1 : decode cX10_meets 1 = .ok (.iload_n 1, 1) := by decide +kernel
theorem dX10_meets_2 : decode cX10_meets 2 = .ok (.putfield 305, 3) := by decide +kernel
theorem dX10_meets_5 : decode cX10_meets 5 = .ok (.aload_n 0, 1) := by decide +kernel
theorem dX10_meets_6 : decode cX10_meets 6 = .ok (.getfield 69, 3) := by decide +kernel
theorem dX10_meets_9 : decode cX10_meets 9 = .ok (.iload_n 1, 1) := by decide +kernel
theorem dX10_meets_10 : decode cX10_meets 10 = .ok (.dup2, 1) := by decide +kernel
theorem dX10_meets_11 : decode cX10_meets 11 = .ok (.iaload, 1) := by decide +kernel
theorem dX10_meets_12 : decode cX10_meets 12 = .ok (.iconst 1, 1) := by decide +kernel
theorem dX10_meets_13 : decode cX10_meets 13 = .ok (.iadd, 1) := by decide +kernel
theorem dX10_meets_14 : decode cX10_meets 14 = .ok (.iastore, 1) := by decide +kernel
theorem dX10_meets_15 : decode cX10_meets 15 = .ok (.bipush (-3), 2) := by decide +kernel
theorem dX10_meets_17 : decode cX10_meets 17 = .ok (.ireturn, 1) := by decide +kernel
theorem dX10_withFinding_0 : decode cX10_withFinding 0 = .ok (.iload_n 1, 1) := by decide +kernel
theorem dX10_withFinding_1 : decode cX10_withFinding 1 = .ok (.bipush (-3), 2) := by decide +kernel
theorem dX10_withFinding_3 : decode cX10_withFinding 3 = .ok (.if_icmp .ne 17, 3) := by decide +kernel
theorem dX10_withFinding_6 : decode cX10_withFinding 6 = .ok (.aload_n 0, 1) := by decide +kernel
theorem dX10_withFinding_7 : decode cX10_withFinding 7 = .ok (.aload_n 0, 1) := by decide +kernel
theorem dX10_withFinding_8 : decode cX10_withFinding 8 = .ok (.getfield 61, 3) := by decide +kernel
theorem dX10_withFinding_11 : decode cX10_withFinding 11 = .ok (.getfield 325, 3) := by decide +kernel
theorem dX10_withFinding_14 : decode cX10_withFinding 14 = .ok (.invokevirtual 76, 3) := by decide +kernel
theorem dX10_withFinding_17 : decode cX10_withFinding 17 = .ok (.goto 4, 3) := by decide +kernel
theorem dX10_withFinding_20 : decode cX10_withFinding 20 = .ok (.iload_n 1, 1) := by decide +kernel
theorem dX10_withFinding_21 : decode cX10_withFinding 21 = .ok (.ireturn, 1) := by decide +kernel
theorem dX10_noRound_0 : decode cX10_noRound 0 = .ok (.aload_n 0, 1) := by decide +kernel
theorem dX10_noRound_1 : decode cX10_noRound 1 = .ok (.getfield 10, 3) := by decide +kernel
theorem dX10_noRound_4 : decode cX10_noRound 4 = .ok (.invokevirtual 163, 3) := by decide +kernel
theorem dX10_noRound_7 : decode cX10_noRound 7 = .ok (.istore_n 1, 1) := by decide +kernel
theorem dX10_noRound_8 : decode cX10_noRound 8 = .ok (.iload_n 1, 1) := by decide +kernel
theorem dX10_noRound_9 : decode cX10_noRound 9 = .ok (.bipush (-9), 2) := by decide +kernel
theorem dX10_noRound_11 : decode cX10_noRound 11 = .ok (.if_icmp .ne 8, 3) := by decide +kernel
theorem dX10_noRound_14 : decode cX10_noRound 14 = .ok (.bipush (-4), 2) := by decide +kernel
theorem dX10_noRound_16 : decode cX10_noRound 16 = .ok (.goto 4, 3) := by decide +kernel
theorem dX10_noRound_19 : decode cX10_noRound 19 = .ok (.iload_n 1, 1) := by decide +kernel
theorem dX10_noRound_20 : decode cX10_noRound 20 = .ok (.ireturn, 1) := by decide +kernel
theorem dX10_noSchedule_0 : decode cX10_noSchedule 0 = .ok (.aload_n 0, 1) := by decide +kernel
theorem dX10_noSchedule_1 : decode cX10_noSchedule 1 = .ok (.getfield 10, 3) := by decide +kernel
theorem dX10_noSchedule_4 : decode cX10_noSchedule 4 = .ok (.invokevirtual 163, 3) := by decide +kernel
theorem dX10_noSchedule_7 : decode cX10_noSchedule 7 = .ok (.istore_n 1, 1) := by decide +kernel
theorem dX10_noSchedule_8 : decode cX10_noSchedule 8 = .ok (.iload_n 1, 1) := by decide +kernel
theorem dX10_noSchedule_9 : decode cX10_noSchedule 9 = .ok (.ifCond .ne 20, 3) := by decide +kernel
theorem dX10_noSchedule_12 : decode cX10_noSchedule 12 = .ok (.aload_n 0, 1) := by decide +kernel
theorem dX10_noSchedule_13 : decode cX10_noSchedule 13 = .ok (.getfield 33, 3) := by decide +kernel
theorem dX10_noSchedule_16 : decode cX10_noSchedule 16 = .ok (.invokevirtual 177, 3) := by decide +kernel
theorem dX10_noSchedule_19 : decode cX10_noSchedule 19 = .ok (.ifCond .eq 8, 3) := by decide +kernel
theorem dX10_noSchedule_22 : decode cX10_noSchedule 22 = .ok (.bipush (-4), 2) := by decide +kernel
theorem dX10_noSchedule_24 : decode cX10_noSchedule 24 = .ok (.goto 4, 3) := by decide +kernel
theorem dX10_noSchedule_27 : decode cX10_noSchedule 27 = .ok (.iconst 0, 1) := by decide +kernel
theorem dX10_noSchedule_28 : decode cX10_noSchedule 28 = .ok (.ireturn, 1) := by decide +kernel
theorem dX10_noSchedule_29 : decode cX10_noSchedule 29 = .ok (.iload_n 1, 1) := by decide +kernel
theorem dX10_noSchedule_30 : decode cX10_noSchedule 30 = .ok (.bipush (-9), 2) := by decide +kernel
theorem dX10_noSchedule_32 : decode cX10_noSchedule 32 = .ok (.if_icmp .ne 8, 3) := by decide +kernel
theorem dX10_noSchedule_35 : decode cX10_noSchedule 35 = .ok (.bipush (-4), 2) := by decide +kernel
theorem dX10_noSchedule_37 : decode cX10_noSchedule 37 = .ok (.goto 4, 3) := by decide +kernel
theorem dX10_noSchedule_40 : decode cX10_noSchedule 40 = .ok (.iload_n 1, 1) := by decide +kernel
theorem dX10_noSchedule_41 : decode cX10_noSchedule 41 = .ok (.ireturn, 1) := by decide +kernel
theorem dX10_graphChanged_0 : decode cX10_graphChanged 0 = .ok (.aload_n 0, 1) := by decide +kernel
theorem dX10_graphChanged_1 : decode cX10_graphChanged 1 = .ok (.getfield 10, 3) := by decide +kernel
theorem dX10_graphChanged_4 : decode cX10_graphChanged 4 = .ok (.invokevirtual 328, 3) := by decide +kernel
theorem dX10_graphChanged_7 : decode cX10_graphChanged 7 = .ok (.aload_n 0, 1) := by decide +kernel
theorem dX10_graphChanged_8 : decode cX10_graphChanged 8 = .ok (.getfield 33, 3) := by decide +kernel
theorem dX10_graphChanged_11 : decode cX10_graphChanged 11 = .ok (.invokevirtual 331, 3) := by decide +kernel
theorem dX10_graphChanged_14 : decode cX10_graphChanged 14 = .ok (.aload_n 0, 1) := by decide +kernel
theorem dX10_graphChanged_15 : decode cX10_graphChanged 15 = .ok (.getfield 54, 3) := by decide +kernel
theorem dX10_graphChanged_18 : decode cX10_graphChanged 18 = .ok (.invokevirtual 241, 3) := by decide +kernel
theorem dX10_graphChanged_21 : decode cX10_graphChanged 21 = .ok (.aload_n 0, 1) := by decide +kernel
theorem dX10_graphChanged_22 : decode cX10_graphChanged 22 = .ok (.getfield 47, 3) := by decide +kernel
theorem dX10_graphChanged_25 : decode cX10_graphChanged 25 = .ok (.invokevirtual 332, 3) := by decide +kernel
theorem dX10_graphChanged_28 : decode cX10_graphChanged 28 = .ok (.aload_n 0, 1) := by decide +kernel
theorem dX10_graphChanged_29 : decode cX10_graphChanged 29 = .ok (.getfield 26, 3) := by decide +kernel
theorem dX10_graphChanged_32 : decode cX10_graphChanged 32 = .ok (.invokevirtual 335, 3) := by decide +kernel
theorem dX10_graphChanged_35 : decode cX10_graphChanged 35 = .ok (.aload_n 0, 1) := by decide +kernel
theorem dX10_graphChanged_36 : decode cX10_graphChanged 36 = .ok (.invokevirtual 135, 3) := by decide +kernel
theorem dX10_graphChanged_39 : decode cX10_graphChanged 39 = .ok (.return_, 1) := by decide +kernel
theorem dX10_toFirstMarking_0 : decode cX10_toFirstMarking 0 = .ok (.aload_n 0, 1) := by decide +kernel
theorem dX10_toFirstMarking_1 : decode cX10_toFirstMarking 1 = .ok (.getfield 61, 3) := by decide +kernel
theorem dX10_toFirstMarking_4 : decode cX10_toFirstMarking 4 = .ok (.invokevirtual 336, 3) := by decide +kernel
theorem dX10_toFirstMarking_7 : decode cX10_toFirstMarking 7 = .ok (.aload_n 0, 1) := by decide +kernel
theorem dX10_toFirstMarking_8 : decode cX10_toFirstMarking 8 = .ok (.getfield 26, 3) := by decide +kernel
theorem dX10_toFirstMarking_11 : decode cX10_toFirstMarking 11 = .ok (.invokevirtual 274, 3) := by decide +kernel
theorem dX10_toFirstMarking_14 : decode cX10_toFirstMarking 14 = .ok (.return_, 1) := by decide +kernel
theorem dX10_hasPlaces_0 : decode cX10_hasPlaces 0 = .ok (.iload_n 1, 1) := by decide +kernel
theorem dX10_hasPlaces_1 : decode cX10_hasPlaces 1 = .ok (.ifCond .lt 25, 3) := by decide +kernel
theorem dX10_hasPlaces_4 : decode cX10_hasPlaces 4 = .ok (.iload_n 2, 1) := by decide +kernel
theorem dX10_hasPlaces_5 : decode cX10_hasPlaces 5 = .ok (.ifCond .lt 21, 3) := by decide +kernel
theorem dX10_hasPlaces_8 : decode cX10_hasPlaces 8 = .ok (.iload_n 1, 1) := by decide +kernel
theorem dX10_hasPlaces_9 : decode cX10_hasPlaces 9 = .ok (.aload_n 0, 1) := by decide +kernel
theorem dX10_hasPlaces_10 : decode cX10_hasPlaces 10 = .ok (.arraylength, 1) := by decide +kernel
theorem dX10_hasPlaces_11 : decode cX10_hasPlaces 11 = .ok (.if_icmp .gt 15, 3) := by decide +kernel
theorem dX10_hasPlaces_14 : decode cX10_hasPlaces 14 = .ok (.iload_n 2, 1) := by decide +kernel
theorem dX10_hasPlaces_15 : decode cX10_hasPlaces 15 = .ok (.aload_n 0, 1) := by decide +kernel
theorem dX10_hasPlaces_16 : decode cX10_hasPlaces 16 = .ok (.arraylength, 1) := by decide +kernel
theorem dX10_hasPlaces_17 : decode cX10_hasPlaces 17 = .ok (.iload_n 1, 1) := by decide +kernel
theorem dX10_hasPlaces_18 : decode cX10_hasPlaces 18 = .ok (.isub, 1) := by decide +kernel
theorem dX10_hasPlaces_19 : decode cX10_hasPlaces 19 = .ok (.if_icmp .gt 7, 3) := by decide +kernel
theorem dX10_hasPlaces_22 : decode cX10_hasPlaces 22 = .ok (.iconst 1, 1) := by decide +kernel
theorem dX10_hasPlaces_23 : decode cX10_hasPlaces 23 = .ok (.goto 4, 3) := by decide +kernel
theorem dX10_hasPlaces_26 : decode cX10_hasPlaces 26 = .ok (.iconst 0, 1) := by decide +kernel
theorem dX10_hasPlaces_27 : decode cX10_hasPlaces 27 = .ok (.ireturn, 1) := by decide +kernel
theorem dX10_commonDivisor_0 : decode cX10_commonDivisor 0 = .ok (.iconst 0, 1) := by decide +kernel
theorem dX10_commonDivisor_1 : decode cX10_commonDivisor 1 = .ok (.istore 4, 2) := by decide +kernel
theorem dX10_commonDivisor_3 : decode cX10_commonDivisor 3 = .ok (.iload 4, 2) := by decide +kernel
theorem dX10_commonDivisor_5 : decode cX10_commonDivisor 5 = .ok (.bipush 100, 2) := by decide +kernel
theorem dX10_commonDivisor_7 : decode cX10_commonDivisor 7 = .ok (.if_icmp .ge 25, 3) := by decide +kernel
theorem dX10_commonDivisor_10 : decode cX10_commonDivisor 10 = .ok (.lload_n 2, 1) := by decide +kernel
theorem dX10_commonDivisor_11 : decode cX10_commonDivisor 11 = .ok (.lconst 0, 1) := by decide +kernel
theorem dX10_commonDivisor_12 : decode cX10_commonDivisor 12 = .ok (.lcmp, 1) := by decide +kernel
theorem dX10_commonDivisor_13 : decode cX10_commonDivisor 13 = .ok (.ifCond .eq 19, 3) := by decide +kernel
theorem dX10_commonDivisor_16 : decode cX10_commonDivisor 16 = .ok (.lload_n 0, 1) := by decide +kernel
theorem dX10_commonDivisor_17 : decode cX10_commonDivisor 17 = .ok (.lload_n 2, 1) := by decide +kernel
theorem dX10_commonDivisor_18 : decode cX10_commonDivisor 18 = .ok (.lrem, 1) := by decide +kernel
theorem dX10_commonDivisor_19 : decode cX10_commonDivisor 19 = .ok (.lstore 5, 2) := by decide +kernel
theorem dX10_commonDivisor_21 : decode cX10_commonDivisor 21 = .ok (.lload_n 2, 1) := by decide +kernel
theorem dX10_commonDivisor_22 : decode cX10_commonDivisor 22 = .ok (.lstore_n 0, 1) := by decide +kernel
theorem dX10_commonDivisor_23 : decode cX10_commonDivisor 23 = .ok (.lload 5, 2) := by decide +kernel
theorem dX10_commonDivisor_25 : decode cX10_commonDivisor 25 = .ok (.lstore_n 2, 1) := by decide +kernel
theorem dX10_commonDivisor_26 : decode cX10_commonDivisor 26 = .ok (.iinc 4 1, 3) := by decide +kernel
theorem dX10_commonDivisor_29 : decode cX10_commonDivisor 29 = .ok (.goto (-26), 3) := by decide +kernel
theorem dX10_commonDivisor_32 : decode cX10_commonDivisor 32 = .ok (.lload_n 0, 1) := by decide +kernel
theorem dX10_commonDivisor_33 : decode cX10_commonDivisor 33 = .ok (.lconst 0, 1) := by decide +kernel
theorem dX10_commonDivisor_34 : decode cX10_commonDivisor 34 = .ok (.lcmp, 1) := by decide +kernel
theorem dX10_commonDivisor_35 : decode cX10_commonDivisor 35 = .ok (.ifCond .le 7, 3) := by decide +kernel
theorem dX10_commonDivisor_38 : decode cX10_commonDivisor 38 = .ok (.lload_n 0, 1) := by decide +kernel
theorem dX10_commonDivisor_39 : decode cX10_commonDivisor 39 = .ok (.goto 4, 3) := by decide +kernel
theorem dX10_commonDivisor_42 : decode cX10_commonDivisor 42 = .ok (.lconst 1, 1) := by decide +kernel
theorem dX10_commonDivisor_43 : decode cX10_commonDivisor 43 = .ok (.lreturn, 1) := by decide +kernel
