theorem dX11_once_83 : decode cX11_once 83 = .ok (.aload_n 0, 1) := by decide +kernel
theorem dX11_once_84 : decode cX11_once 84 = .ok (.aload_n 0, 1) := by decide +kernel
theorem dX11_once_85 : decode cX11_once 85 = .ok (.getfield 120, 3) := by decide +kernel
theorem dX11_once_88 : decode cX11_once 88 = .ok (.iload_n 3, 1) := by decide +kernel
theorem dX11_once_89 : decode cX11_once 89 = .ok (.iaload, 1) := by decide +kernel
theorem dX11_once_90 : decode cX11_once 90 = .ok (.invokevirtual 293, 3) := by decide +kernel
theorem dX11_once_93 : decode cX11_once 93 = .ok (.aload_n 0, 1) := by decide +kernel
theorem dX11_once_94 : decode cX11_once 94 = .ok (.invokevirtual 323, 3) := by decide +kernel
theorem dX11_once_97 : decode cX11_once 97 = .ok (.iinc 3 1, 3) := by decide +kernel
theorem dX11_once_100 : decode cX11_once 100 = .ok (.goto (-22), 3) := by decide +kernel
theorem dX11_once_103 : decode cX11_once 103 = .ok (.aload_n 0, 1) := by decide +kernel
theorem dX11_once_104 : decode cX11_once 104 = .ok (.iload_n 2, 1) := by decide +kernel
theorem dX11_once_105 : decode cX11_once 105 = .ok (.invokevirtual 326, 3) := by decide +kernel
theorem dX11_once_108 : decode cX11_once 108 = .ok (.ireturn, 1) := by decide +kernel
theorem dX11_bracket_0 : decode cX11_bracket 0 = .ok (.iload_n 1, 1) := by decide +kernel
theorem dX11_bracket_1 : decode cX11_bracket 1 = .ok (.iconst 0, 1) := by decide +kernel
theorem dX11_bracket_2 : decode cX11_bracket 2 = .ok (.aload_n 0, 1) := by decide +kernel
theorem dX11_bracket_3 : decode cX11_bracket 3 = .ok (.getfield 163, 3) := by decide +kernel
theorem dX11_bracket_6 : decode cX11_bracket 6 = .ok (.iconst 1, 1) := by decide +kernel
theorem dX11_bracket_7 : decode cX11_bracket 7 = .ok (.isub, 1) := by decide +kernel
theorem dX11_bracket_8 : decode cX11_bracket 8 = .ok (.invokestatic 205, 3) := by decide +kernel
theorem dX11_bracket_11 : decode cX11_bracket 11 = .ok (.ifCond .eq 12, 3) := by decide +kernel
theorem dX11_bracket_14 : decode cX11_bracket 14 = .ok (.aload_n 0, 1) := by decide +kernel
theorem dX11_bracket_15 : decode cX11_bracket 15 = .ok (.getfield 160, 3) := by decide +kernel
theorem dX11_bracket_18 : decode cX11_bracket 18 = .ok (.iload_n 1, 1) := by decide +kernel
theorem dX11_bracket_19 : decode cX11_bracket 19 = .ok (.iaload, 1) := by decide +kernel
theorem dX11_bracket_20 : decode cX11_bracket 20 = .ok (.goto 5, 3) := by decide +kernel
theorem dX11_bracket_23 : decode cX11_bracket 23 = .ok (.bipush (-9), 2) := by decide +kernel
theorem dX11_bracket_25 : decode cX11_bracket 25 = .ok (.ireturn, 1) := by decide +kernel
theorem dX11_firing_0 : decode cX11_firing 0 = .ok (.iload_n 1, 1) := by decide +kernel
theorem dX11_firing_1 : decode cX11_firing 1 = .ok (.iconst 0, 1) := by decide +kernel
theorem dX11_firing_2 : decode cX11_firing 2 = .ok (.aload_n 0, 1) := by decide +kernel
theorem dX11_firing_3 : decode cX11_firing 3 = .ok (.getfield 113, 3) := by decide +kernel
theorem dX11_firing_6 : decode cX11_firing 6 = .ok (.iconst 1, 1) := by decide +kernel
theorem dX11_firing_7 : decode cX11_firing 7 = .ok (.isub, 1) := by decide +kernel
theorem dX11_firing_8 : decode cX11_firing 8 = .ok (.invokestatic 205, 3) := by decide +kernel
theorem dX11_firing_11 : decode cX11_firing 11 = .ok (.ifCond .eq 12, 3) := by decide +kernel
theorem dX11_firing_14 : decode cX11_firing 14 = .ok (.aload_n 0, 1) := by decide +kernel
theorem dX11_firing_15 : decode cX11_firing 15 = .ok (.getfield 110, 3) := by decide +kernel
theorem dX11_firing_18 : decode cX11_firing 18 = .ok (.iload_n 1, 1) := by decide +kernel
theorem dX11_firing_19 : decode cX11_firing 19 = .ok (.iaload, 1) := by decide +kernel
theorem dX11_firing_20 : decode cX11_firing 20 = .ok (.goto 5, 3) := by decide +kernel
theorem dX11_firing_23 : decode cX11_firing 23 = .ok (.bipush (-9), 2) := by decide +kernel
theorem dX11_firing_25 : decode cX11_firing 25 = .ok (.ireturn, 1) := by decide +kernel
theorem dX11_store_0 : decode cX11_store 0 = .ok (.aload_n 0, 1) := by decide +kernel
theorem dX11_store_1 : decode cX11_store 1 = .ok (.iload_n 1, 1) := by decide +kernel
theorem dX11_store_2 : decode cX11_store 2 = .ok (.invokevirtual 232, 3) := by decide +kernel
theorem dX11_store_5 : decode cX11_store 5 = .ok (.ifCond .ne 7, 3) := by decide +kernel
theorem dX11_store_8 : decode cX11_store 8 = .ok (.iconst (-1), 1) := by decide +kernel
theorem dX11_store_9 : decode cX11_store 9 = .ok (.goto 21, 3) := by decide +kernel
theorem dX11_store_12 : decode cX11_store 12 = .ok (.aload_n 0, 1) := by decide +kernel
theorem dX11_store_13 : decode cX11_store 13 = .ok (.getfield 113, 3) := by decide +kernel
theorem dX11_store_16 : decode cX11_store 16 = .ok (.ifCond .ge 8, 3) := by decide +kernel
theorem dX11_store_19 : decode cX11_store 19 = .ok (.bipush (-9), 2) := by decide +kernel
theorem dX11_store_21 : decode cX11_store 21 = .ok (.goto 9, 3) := by decide +kernel
theorem dX11_store_24 : decode cX11_store 24 = .ok (.aload_n 0, 1) := by decide +kernel
theorem dX11_store_25 : decode cX11_store 25 = .ok (.getfield 117, 3) := by decide +kernel
theorem dX11_store_28 : decode cX11_store 28 = .ok (.iload_n 1, 1) := by decide +kernel
theorem dX11_store_29 : decode cX11_store 29 = .ok (.iaload, 1) := by decide +kernel
theorem dX11_store_30 : decode cX11_store 30 = .ok (.ireturn, 1) := by decide +kernel
theorem dX11_marking_0 : decode cX11_marking 0 = .ok (.aload_n 0, 1) := by decide +kernel
theorem dX11_marking_1 : decode cX11_marking 1 = .ok (.iload_n 2, 1) := by decide +kernel
theorem dX11_marking_2 : decode cX11_marking 2 = .ok (.invokevirtual 232, 3) := by decide +kernel
theorem dX11_marking_5 : decode cX11_marking 5 = .ok (.ifCond .ne 5, 3) := by decide +kernel
theorem dX11_marking_8 : decode cX11_marking 8 = .ok (.iconst (-1), 1) := by decide +kernel
theorem dX11_marking_9 : decode cX11_marking 9 = .ok (.ireturn, 1) := by decide +kernel
theorem dX11_marking_10 : decode cX11_marking 10 = .ok (.aload_n 0, 1) := by decide +kernel
theorem dX11_marking_11 : decode cX11_marking 11 = .ok (.getfield 113, 3) := by decide +kernel
theorem dX11_marking_14 : decode cX11_marking 14 = .ok (.ifCond .lt 15, 3) := by decide +kernel
theorem dX11_marking_17 : decode cX11_marking 17 = .ok (.iload_n 1, 1) := by decide +kernel
theorem dX11_marking_18 : decode cX11_marking 18 = .ok (.iconst 0, 1) := by decide +kernel
theorem dX11_marking_19 : decode cX11_marking 19 = .ok (.aload_n 0, 1) := by decide +kernel
theorem dX11_marking_20 : decode cX11_marking 20 = .ok (.getfield 113, 3) := by decide +kernel
theorem dX11_marking_23 : decode cX11_marking 23 = .ok (.invokestatic 205, 3) := by decide +kernel
theorem dX11_marking_26 : decode cX11_marking 26 = .ok (.ifCond .ne 6, 3) := by decide +kernel
theorem dX11_marking_29 : decode cX11_marking 29 = .ok (.bipush (-9), 2) := by decide +kernel
theorem dX11_marking_31 : decode cX11_marking 31 = .ok (.ireturn, 1) := by decide +kernel
theorem dX11_marking_32 : decode cX11_marking 32 = .ok (.aload_n 0, 1) := by decide +kernel
theorem dX11_marking_33 : decode cX11_marking 33 = .ok (.invokevirtual 280, 3) := by decide +kernel
theorem dX11_marking_36 : decode cX11_marking 36 = .ok (.istore_n 3, 1) := by decide +kernel
theorem dX11_marking_37 : decode cX11_marking 37 = .ok (.aload_n 0, 1) := by decide +kernel
theorem dX11_marking_38 : decode cX11_marking 38 = .ok (.iconst 0, 1) := by decide +kernel
theorem dX11_marking_39 : decode cX11_marking 39 = .ok (.invokevirtual 286, 3) := by decide +kernel
theorem dX11_marking_42 : decode cX11_marking 42 = .ok (.iconst 0, 1) := by decide +kernel
theorem dX11_marking_43 : decode cX11_marking 43 = .ok (.istore 4, 2) := by decide +kernel
theorem dX11_marking_45 : decode cX11_marking 45 = .ok (.iload 4, 2) := by decide +kernel
theorem dX11_marking_47 : decode cX11_marking 47 = .ok (.iload_n 1, 1) := by decide +kernel
theorem dX11_marking_48 : decode cX11_marking 48 = .ok (.if_icmp .ge 20, 3) := by decide +kernel
theorem dX11_marking_51 : decode cX11_marking 51 = .ok (.aload_n 0, 1) := by decide +kernel
theorem dX11_marking_52 : decode cX11_marking 52 = .ok (.aload_n 0, 1) := by decide +kernel
theorem dX11_marking_53 : decode cX11_marking 53 = .ok (.getfield 110, 3) := by decide +kernel
theorem dX11_marking_56 : decode cX11_marking 56 = .ok (.iload 4, 2) := by decide +kernel
theorem dX11_marking_58 : decode cX11_marking 58 = .ok (.iaload, 1) := by decide +kernel
theorem dX11_marking_59 : decode cX11_marking 59 = .ok (.invokevirtual 293, 3) := by decide +kernel
theorem dX11_marking_62 : decode cX11_marking 62 = .ok (.iinc 4 1, 3) := by decide +kernel
theorem dX11_marking_65 : decode cX11_marking 65 = .ok (.goto (-20), 3) := by decide +kernel
theorem dX11_marking_68 : decode cX11_marking 68 = .ok (.aload_n 0, 1) := by decide +kernel
theorem dX11_marking_69 : decode cX11_marking 69 = .ok (.getfield 98, 3) := by decide +kernel
theorem dX11_marking_72 : decode cX11_marking 72 = .ok (.iload_n 2, 1) := by decide +kernel
theorem dX11_marking_73 : decode cX11_marking 73 = .ok (.iaload, 1) := by decide +kernel
theorem dX11_marking_74 : decode cX11_marking 74 = .ok (.ireturn, 1) := by decide +kernel
theorem dX11_draft_0 : decode cX11_draft 0 = .ok (.aload_n 0, 1) := by decide +kernel
theorem dX11_draft_1 : decode cX11_draft 1 = .ok (.iload_n 1, 1) := by decide +kernel
theorem dX11_draft_2 : decode cX11_draft 2 = .ok (.invokevirtual 228, 3) := by decide +kernel
theorem dX11_draft_5 : decode cX11_draft 5 = .ok (.ifCond .ne 5, 3) := by decide +kernel
theorem dX11_draft_8 : decode cX11_draft 8 = .ok (.iconst (-1), 1) := by decide +kernel
theorem dX11_draft_9 : decode cX11_draft 9 = .ok (.ireturn, 1) := by decide +kernel
theorem dX11_draft_10 : decode cX11_draft 10 = .ok (.aload_n 0, 1) := by decide +kernel
theorem dX11_draft_11 : decode cX11_draft 11 = .ok (.getfield 365, 3) := by decide +kernel
theorem dX11_draft_14 : decode cX11_draft 14 = .ok (.sipush 200, 3) := by decide +kernel
theorem dX11_draft_17 : decode cX11_draft 17 = .ok (.if_icmp .ne 6, 3) := by decide +kernel
theorem dX11_draft_20 : decode cX11_draft 20 = .ok (.bipush (-2), 2) := by decide +kernel
theorem dX11_draft_22 : decode cX11_draft 22 = .ok (.ireturn, 1) := by decide +kernel
theorem dX11_draft_23 : decode cX11_draft 23 = .ok (.aload_n 0, 1) := by decide +kernel
theorem dX11_draft_24 : decode cX11_draft 24 = .ok (.getfield 175, 3) := by decide +kernel
theorem dX11_draft_27 : decode cX11_draft 27 = .ok (.aload_n 0, 1) := by decide +kernel
theorem dX11_draft_28 : decode cX11_draft 28 = .ok (.getfield 365, 3) := by decide +kernel
theorem dX11_draft_31 : decode cX11_draft 31 = .ok (.iload_n 1, 1) := by decide +kernel
theorem dX11_draft_32 : decode cX11_draft 32 = .ok (.iastore, 1) := by decide +kernel
theorem dX11_draft_33 : decode cX11_draft 33 = .ok (.aload_n 0, 1) := by decide +kernel
theorem dX11_draft_34 : decode cX11_draft 34 = .ok (.dup, 1) := by decide +kernel
theorem dX11_draft_35 : decode cX11_draft 35 = .ok (.getfield 365, 3) := by decide +kernel
theorem dX11_draft_38 : decode cX11_draft 38 = .ok (.iconst 1, 1) := by decide +kernel
theorem dX11_draft_39 : decode cX11_draft 39 = .ok (.iadd, 1) := by decide +kernel
theorem dX11_draft_40 : decode cX11_draft 40 = .ok (.putfield 365, 3) := by decide +kernel
theorem dX11_draft_43 : decode cX11_draft 43 = .ok (.aload_n 0, 1) := by decide +kernel
theorem dX11_draft_44 : decode cX11_draft 44 = .ok (.getfield 365, 3) := by decide +kernel
theorem dX11_draft_47 : decode cX11_draft 47 = .ok (.ireturn, 1) := by decide +kernel
theorem dX11_check_0 : decode cX11_check 0 = .ok (.aload_n 0, 1) := by decide +kernel
theorem dX11_check_1 : decode cX11_check 1 = .ok (.getfield 365, 3) := by decide +kernel
theorem dX11_check_4 : decode cX11_check 4 = .ok (.istore_n 1, 1) := by decide +kernel
theorem dX11_check_5 : decode cX11_check 5 = .ok (.aload_n 0, 1) := by decide +kernel
theorem dX11_check_6 : decode cX11_check 6 = .ok (.iconst 0, 1) := by decide +kernel
theorem dX11_check_7 : decode cX11_check 7 = .ok (.putfield 365, 3) := by decide +kernel
theorem dX11_check_10 : decode cX11_check 10 = .ok (.aload_n 0, 1) := by decide +kernel
theorem dX11_check_11 : decode cX11_check 11 = .ok (.iconst 0, 1) := by decide +kernel
theorem dX11_check_12 : decode cX11_check 12 = .ok (.invokevirtual 304, 3) := by decide +kernel
theorem dX11_check_15 : decode cX11_check 15 = .ok (.istore_n 2, 1) := by decide +kernel
theorem dX11_check_16 : decode cX11_check 16 = .ok (.iload_n 2, 1) := by decide +kernel
theorem dX11_check_17 : decode cX11_check 17 = .ok (.ifCond .ge 5, 3) := by decide +kernel
theorem dX11_check_20 : decode cX11_check 20 = .ok (.iload_n 2, 1) := by decide +kernel
theorem dX11_check_21 : decode cX11_check 21 = .ok (.ireturn, 1) := by decide +kernel
theorem dX11_check_22 : decode cX11_check 22 = .ok (.aload_n 0, 1) := by decide +kernel
theorem dX11_check_23 : decode cX11_check 23 = .ok (.iconst 0, 1) := by decide +kernel
theorem dX11_check_24 : decode cX11_check 24 = .ok (.invokevirtual 286, 3) := by decide +kernel
theorem dX11_check_27 : decode cX11_check 27 = .ok (.aload_n 0, 1) := by decide +kernel
theorem dX11_check_28 : decode cX11_check 28 = .ok (.invokevirtual 317, 3) := by decide +kernel
theorem dX11_check_31 : decode cX11_check 31 = .ok (.iconst 0, 1) := by decide +kernel
theorem dX11_check_32 : decode cX11_check 32 = .ok (.istore_n 3, 1) := by decide +kernel
theorem dX11_check_33 : decode cX11_check 33 = .ok (.iload_n 3, 1) := by decide +kernel
theorem dX11_check_34 : decode cX11_check 34 = .ok (.iload_n 1, 1) := by decide +kernel
theorem dX11_check_35 : decode cX11_check 35 = .ok (.if_icmp .ge 59, 3) := by decide +kernel
theorem dX11_check_38 : decode cX11_check 38 = .ok (.aload_n 0, 1) := by decide +kernel
theorem dX11_check_39 : decode cX11_check 39 = .ok (.getfield 175, 3) := by decide +kernel
theorem dX11_check_42 : decode cX11_check 42 = .ok (.iload_n 3, 1) := by decide +kernel
theorem dX11_check_43 : decode cX11_check 43 = .ok (.iaload, 1) := by decide +kernel
theorem dX11_check_44 : decode cX11_check 44 = .ok (.istore 4, 2) := by decide +kernel
theorem dX11_check_46 : decode cX11_check 46 = .ok (.aload_n 0, 1) := by decide +kernel
theorem dX11_check_47 : decode cX11_check 47 = .ok (.getfield 104, 3) := by decide +kernel
theorem dX11_check_50 : decode cX11_check 50 = .ok (.iload 4, 2) := by decide +kernel
theorem dX11_check_52 : decode cX11_check 52 = .ok (.iaload, 1) := by decide +kernel
theorem dX11_check_53 : decode cX11_check 53 = .ok (.ifCond .eq 12, 3) := by decide +kernel
theorem dX11_check_56 : decode cX11_check 56 = .ok (.aload_n 0, 1) := by decide +kernel
theorem dX11_check_57 : decode cX11_check 57 = .ok (.iload 4, 2) := by decide +kernel
theorem dX11_check_59 : decode cX11_check 59 = .ok (.invokevirtual 283, 3) := by decide +kernel
theorem dX11_check_62 : decode cX11_check 62 = .ok (.ifCond .ne 8, 3) := by decide +kernel
theorem dX11_check_65 : decode cX11_check 65 = .ok (.bipush (-10), 2) := by decide +kernel
theorem dX11_check_67 : decode cX11_check 67 = .ok (.iload_n 3, 1) := by decide +kernel
theorem dX11_check_68 : decode cX11_check 68 = .ok (.isub, 1) := by decide +kernel
theorem dX11_check_69 : decode cX11_check 69 = .ok (.ireturn, 1) := by decide +kernel
theorem dX11_check_70 : decode cX11_check 70 = .ok (.aload_n 0, 1) := by decide +kernel
theorem dX11_check_71 : decode cX11_check 71 = .ok (.iload 4, 2) := by decide +kernel
theorem dX11_check_73 : decode cX11_check 73 = .ok (.invokevirtual 293, 3) := by decide +kernel
theorem dX11_check_76 : decode cX11_check 76 = .ok (.aload_n 0, 1) := by decide +kernel
theorem dX11_check_77 : decode cX11_check 77 = .ok (.invokevirtual 323, 3) := by decide +kernel
theorem dX11_check_80 : decode cX11_check 80 = .ok (.aload_n 0, 1) := by decide +kernel
theorem dX11_check_81 : decode cX11_check 81 = .ok (.getfield 120, 3) := by decide +kernel
theorem dX11_check_84 : decode cX11_check 84 = .ok (.iload_n 3, 1) := by decide +kernel
theorem dX11_check_85 : decode cX11_check 85 = .ok (.iload 4, 2) := by decide +kernel
theorem dX11_check_87 : decode cX11_check 87 = .ok (.iastore, 1) := by decide +kernel
theorem dX11_check_88 : decode cX11_check 88 = .ok (.iinc 3 1, 3) := by decide +kernel
theorem dX11_check_91 : decode cX11_check 91 = .ok (.goto (-58), 3) := by decide +kernel
theorem dX11_check_94 : decode cX11_check 94 = .ok (.aload_n 0, 1) := by decide +kernel
theorem dX11_check_95 : decode cX11_check 95 = .ok (.invokevirtual 297, 3) := by decide +kernel
theorem dX11_check_98 : decode cX11_check 98 = .ok (.ifCond .lt 10, 3) := by decide +kernel
theorem dX11_check_101 : decode cX11_check 101 = .ok (.bipush (-10), 2) := by decide +kernel
theorem dX11_check_103 : decode cX11_check 103 = .ok (.iload_n 1, 1) := by decide +kernel
theorem dX11_check_104 : decode cX11_check 104 = .ok (.isub, 1) := by decide +kernel
theorem dX11_check_105 : decode cX11_check 105 = .ok (.goto 8, 3) := by decide +kernel
theorem dX11_check_108 : decode cX11_check 108 = .ok (.aload_n 0, 1) := by decide +kernel
theorem dX11_check_109 : decode cX11_check 109 = .ok (.iload_n 1, 1) := by decide +kernel
theorem dX11_check_110 : decode cX11_check 110 = .ok (.invokevirtual 326, 3) := by decide +kernel
theorem dX11_check_113 : decode cX11_check 113 = .ok (.ireturn, 1) := by decide +kernel
theorem dX11_time_0 : decode cX11_time 0 = .ok (.aload_n 0, 1) := by decide +kernel
theorem dX11_time_1 : decode cX11_time 1 = .ok (.iload_n 1, 1) := by decide +kernel
theorem dX11_time_2 : decode cX11_time 2 = .ok (.invokevirtual 228, 3) := by decide +kernel
theorem dX11_time_5 : decode cX11_time 5 = .ok (.ifCond .eq 14, 3) := by decide +kernel
theorem dX11_time_8 : decode cX11_time 8 = .ok (.iload_n 2, 1) := by decide +kernel
theorem dX11_time_9 : decode cX11_time 9 = .ok (.iconst 0, 1) := by decide +kernel
theorem dX11_time_10 : decode cX11_time 10 = .ok (.sipush 1000, 3) := by decide +kernel
theorem dX11_time_13 : decode cX11_time 13 = .ok (.invokestatic 205, 3) := by decide +kernel
theorem dX11_time_16 : decode cX11_time 16 = .ok (.ifCond .ne 5, 3) := by decide +kernel
theorem dX11_time_19 : decode cX11_time 19 = .ok (.iconst (-1), 1) := by decide +kernel
theorem dX11_time_20 : decode cX11_time 20 = .ok (.ireturn, 1) := by decide +kernel
theorem dX11_time_21 : decode cX11_time 21 = .ok (.aload_n 0, 1) := by decide +kernel
theorem dX11_time_22 : decode cX11_time 22 = .ok (.getfield 35, 3) := by decide +kernel
theorem dX11_time_25 : decode cX11_time 25 = .ok (.iload_n 1, 1) := by decide +kernel
theorem dX11_time_26 : decode cX11_time 26 = .ok (.iaload, 1) := by decide +kernel
theorem dX11_time_27 : decode cX11_time 27 = .ok (.istore_n 3, 1) := by decide +kernel
theorem dX11_time_28 : decode cX11_time 28 = .ok (.aload_n 0, 1) := by decide +kernel
theorem dX11_time_29 : decode cX11_time 29 = .ok (.getfield 35, 3) := by decide +kernel
theorem dX11_time_32 : decode cX11_time 32 = .ok (.iload_n 1, 1) := by decide +kernel
theorem dX11_time_33 : decode cX11_time 33 = .ok (.iload_n 2, 1) := by decide +kernel
theorem dX11_time_34 : decode cX11_time 34 = .ok (.iastore, 1) := by decide +kernel
theorem dX11_time_35 : decode cX11_time 35 = .ok (.iload_n 3, 1) := by decide +kernel
theorem dX11_time_36 : decode cX11_time 36 = .ok (.ireturn, 1) := by decide +kernel
theorem dX11_waits_0 : decode cX11_waits 0 = .ok (.aload_n 0, 1) := by decide +kernel
theorem dX11_waits_1 : decode cX11_waits 1 = .ok (.getfield 184, 3) := by decide +kernel
theorem dX11_waits_4 : decode cX11_waits 4 = .ok (.aload_n 0, 1) := by decide +kernel
theorem dX11_waits_5 : decode cX11_waits 5 = .ok (.getfield 368, 3) := by decide +kernel
theorem dX11_waits_8 : decode cX11_waits 8 = .ok (.iload_n 1, 1) := by decide +kernel
theorem dX11_waits_9 : decode cX11_waits 9 = .ok (.iastore, 1) := by decide +kernel
theorem dX11_waits_10 : decode cX11_waits 10 = .ok (.aload_n 0, 1) := by decide +kernel
theorem dX11_waits_11 : decode cX11_waits 11 = .ok (.getfield 187, 3) := by decide +kernel
theorem dX11_waits_14 : decode cX11_waits 14 = .ok (.aload_n 0, 1) := by decide +kernel
theorem dX11_waits_15 : decode cX11_waits 15 = .ok (.getfield 368, 3) := by decide +kernel
theorem dX11_waits_18 : decode cX11_waits 18 = .ok (.iload_n 2, 1) := by decide +kernel
theorem dX11_waits_19 : decode cX11_waits 19 = .ok (.iastore, 1) := by decide +kernel
theorem dX11_waits_20 : decode cX11_waits 20 = .ok (.aload_n 0, 1) := by decide +kernel
theorem dX11_waits_21 : decode cX11_waits 21 = .ok (.getfield 190, 3) := by decide +kernel
theorem dX11_waits_24 : decode cX11_waits 24 = .ok (.aload_n 0, 1) := by decide +kernel
theorem dX11_waits_25 : decode cX11_waits 25 = .ok (.getfield 368, 3) := by decide +kernel
theorem dX11_waits_28 : decode cX11_waits 28 = .ok (.iload_n 3, 1) := by decide +kernel
theorem dX11_waits_29 : decode cX11_waits 29 = .ok (.iastore, 1) := by decide +kernel
theorem dX11_waits_30 : decode cX11_waits 30 = .ok (.aload_n 0, 1) := by decide +kernel
theorem dX11_waits_31 : decode cX11_waits 31 = .ok (.dup, 1) := by decide +kernel
theorem dX11_waits_32 : decode cX11_waits 32 = .ok (.getfield 368, 3) := by decide +kernel
theorem dX11_waits_35 : decode cX11_waits 35 = .ok (.iconst 1, 1) := by decide +kernel
theorem dX11_waits_36 : decode cX11_waits 36 = .ok (.iadd, 1) := by decide +kernel
theorem dX11_waits_37 : decode cX11_waits 37 = .ok (.putfield 368, 3) := by decide +kernel
theorem dX11_waits_40 : decode cX11_waits 40 = .ok (.return_, 1) := by decide +kernel
theorem dX11_giver_0 : decode cX11_giver 0 = .ok (.aload_n 0, 1) := by decide +kernel
theorem dX11_giver_1 : decode cX11_giver 1 = .ok (.getfield 41, 3) := by decide +kernel
theorem dX11_giver_4 : decode cX11_giver 4 = .ok (.iload_n 1, 1) := by decide +kernel
theorem dX11_giver_5 : decode cX11_giver 5 = .ok (.iaload, 1) := by decide +kernel
theorem dX11_giver_6 : decode cX11_giver 6 = .ok (.istore_n 3, 1) := by decide +kernel
theorem dX11_giver_7 : decode cX11_giver 7 = .ok (.iconst (-1), 1) := by decide +kernel
theorem dX11_giver_8 : decode cX11_giver 8 = .ok (.istore 4, 2) := by decide +kernel
theorem dX11_giver_10 : decode cX11_giver 10 = .ok (.aload_n 0, 1) := by decide +kernel
theorem dX11_giver_11 : decode cX11_giver 11 = .ok (.getfield 53, 3) := by decide +kernel
theorem dX11_giver_14 : decode cX11_giver 14 = .ok (.iload_n 1, 1) := by decide +kernel
theorem dX11_giver_15 : decode cX11_giver 15 = .ok (.iaload, 1) := by decide +kernel
theorem dX11_giver_16 : decode cX11_giver 16 = .ok (.istore 5, 2) := by decide +kernel
theorem dX11_giver_18 : decode cX11_giver 18 = .ok (.iload 5, 2) := by decide +kernel
theorem dX11_giver_20 : decode cX11_giver 20 = .ok (.iload_n 2, 1) := by decide +kernel
theorem dX11_giver_21 : decode cX11_giver 21 = .ok (.if_icmp .ge 32, 3) := by decide +kernel
theorem dX11_giver_24 : decode cX11_giver 24 = .ok (.iinc 4 1, 3) := by decide +kernel
theorem dX11_giver_27 : decode cX11_giver 27 = .ok (.iload 5, 2) := by decide +kernel
theorem dX11_giver_29 : decode cX11_giver 29 = .ok (.aload_n 0, 1) := by decide +kernel
theorem dX11_giver_30 : decode cX11_giver 30 = .ok (.getfield 47, 3) := by decide +kernel
theorem dX11_giver_33 : decode cX11_giver 33 = .ok (.iconst 4, 1) := by decide +kernel
theorem dX11_giver_34 : decode cX11_giver 34 = .ok (.iload_n 1, 1) := by decide +kernel
theorem dX11_giver_35 : decode cX11_giver 35 = .ok (.imul, 1) := by decide +kernel
theorem dX11_giver_36 : decode cX11_giver 36 = .ok (.iload 4, 2) := by decide +kernel
theorem dX11_giver_38 : decode cX11_giver 38 = .ok (.aload_n 0, 1) := by decide +kernel
theorem dX11_giver_39 : decode cX11_giver 39 = .ok (.getfield 20, 3) := by decide +kernel
theorem dX11_giver_42 : decode cX11_giver 42 = .ok (.iload_n 3, 1) := by decide +kernel
theorem dX11_giver_43 : decode cX11_giver 43 = .ok (.iaload, 1) := by decide +kernel
theorem dX11_giver_44 : decode cX11_giver 44 = .ok (.irem, 1) := by decide +kernel
theorem dX11_giver_45 : decode cX11_giver 45 = .ok (.iadd, 1) := by decide +kernel
theorem dX11_giver_46 : decode cX11_giver 46 = .ok (.iaload, 1) := by decide +kernel
theorem dX11_giver_47 : decode cX11_giver 47 = .ok (.iadd, 1) := by decide +kernel
theorem dX11_giver_48 : decode cX11_giver 48 = .ok (.istore 5, 2) := by decide +kernel
theorem dX11_giver_50 : decode cX11_giver 50 = .ok (.goto (-32), 3) := by decide +kernel
theorem dX11_giver_53 : decode cX11_giver 53 = .ok (.iconst 1, 1) := by decide +kernel
theorem dX11_giver_54 : decode cX11_giver 54 = .ok (.istore 6, 2) := by decide +kernel
theorem dX11_giver_56 : decode cX11_giver 56 = .ok (.iload 6, 2) := by decide +kernel
theorem dX11_giver_58 : decode cX11_giver 58 = .ok (.ifCond .eq 75, 3) := by decide +kernel
theorem dX11_giver_61 : decode cX11_giver 61 = .ok (.aload_n 0, 1) := by decide +kernel
theorem dX11_giver_62 : decode cX11_giver 62 = .ok (.getfield 47, 3) := by decide +kernel
theorem dX11_giver_65 : decode cX11_giver 65 = .ok (.iconst 4, 1) := by decide +kernel
theorem dX11_giver_66 : decode cX11_giver 66 = .ok (.iload_n 1, 1) := by decide +kernel
theorem dX11_giver_67 : decode cX11_giver 67 = .ok (.imul, 1) := by decide +kernel
theorem dX11_giver_68 : decode cX11_giver 68 = .ok (.iload 4, 2) := by decide +kernel
theorem dX11_giver_70 : decode cX11_giver 70 = .ok (.aload_n 0, 1) := by decide +kernel
theorem dX11_giver_71 : decode cX11_giver 71 = .ok (.getfield 20, 3) := by decide +kernel
theorem dX11_giver_74 : decode cX11_giver 74 = .ok (.iload_n 3, 1) := by decide +kernel
theorem dX11_giver_75 : decode cX11_giver 75 = .ok (.iaload, 1) := by decide +kernel
theorem dX11_giver_76 : decode cX11_giver 76 = .ok (.invokestatic 371, 3) := by decide +kernel
theorem dX11_giver_79 : decode cX11_giver 79 = .ok (.iadd, 1) := by decide +kernel
theorem dX11_giver_80 : decode cX11_giver 80 = .ok (.iaload, 1) := by decide +kernel
theorem dX11_giver_81 : decode cX11_giver 81 = .ok (.istore 7, 2) := by decide +kernel
theorem dX11_giver_83 : decode cX11_giver 83 = .ok (.iload 5, 2) := by decide +kernel
theorem dX11_giver_85 : decode cX11_giver 85 = .ok (.iload 7, 2) := by decide +kernel
theorem dX11_giver_87 : decode cX11_giver 87 = .ok (.isub, 1) := by decide +kernel
theorem dX11_giver_88 : decode cX11_giver 88 = .ok (.iload_n 2, 1) := by decide +kernel
theorem dX11_giver_89 : decode cX11_giver 89 = .ok (.if_icmp .lt 7, 3) := by decide +kernel
theorem dX11_giver_92 : decode cX11_giver 92 = .ok (.iconst 1, 1) := by decide +kernel
theorem dX11_giver_93 : decode cX11_giver 93 = .ok (.goto 4, 3) := by decide +kernel
theorem dX11_giver_96 : decode cX11_giver 96 = .ok (.iconst 0, 1) := by decide +kernel
theorem dX11_giver_97 : decode cX11_giver 97 = .ok (.istore 6, 2) := by decide +kernel
theorem dX11_giver_99 : decode cX11_giver 99 = .ok (.iload 5, 2) := by decide +kernel
theorem dX11_giver_101 : decode cX11_giver 101 = .ok (.iload 6, 2) := by decide +kernel
theorem dX11_giver_103 : decode cX11_giver 103 = .ok (.ifCond .eq 8, 3) := by decide +kernel
theorem dX11_giver_106 : decode cX11_giver 106 = .ok (.iload 7, 2) := by decide +kernel
theorem dX11_giver_108 : decode cX11_giver 108 = .ok (.goto 4, 3) := by decide +kernel
theorem dX11_giver_111 : decode cX11_giver 111 = .ok (.iconst 0, 1) := by decide +kernel
theorem dX11_giver_112 : decode cX11_giver 112 = .ok (.isub, 1) := by decide +kernel
theorem dX11_giver_113 : decode cX11_giver 113 = .ok (.istore 5, 2) := by decide +kernel
theorem dX11_giver_115 : decode cX11_giver 115 = .ok (.iload 4, 2) := by decide +kernel
theorem dX11_giver_117 : decode cX11_giver 117 = .ok (.iload 6, 2) := by decide +kernel
theorem dX11_giver_119 : decode cX11_giver 119 = .ok (.ifCond .eq 7, 3) := by decide +kernel
theorem dX11_giver_122 : decode cX11_giver 122 = .ok (.iconst 1, 1) := by decide +kernel
theorem dX11_giver_123 : decode cX11_giver 123 = .ok (.goto 4, 3) := by decide +kernel
theorem dX11_giver_126 : decode cX11_giver 126 = .ok (.iconst 0, 1) := by decide +kernel
theorem dX11_giver_127 : decode cX11_giver 127 = .ok (.isub, 1) := by decide +kernel
theorem dX11_giver_128 : decode cX11_giver 128 = .ok (.istore 4, 2) := by decide +kernel
theorem dX11_giver_130 : decode cX11_giver 130 = .ok (.goto (-74), 3) := by decide +kernel
theorem dX11_giver_133 : decode cX11_giver 133 = .ok (.iload 4, 2) := by decide +kernel
theorem dX11_giver_135 : decode cX11_giver 135 = .ok (.ireturn, 1) := by decide +kernel
theorem dX11_setWaits_0 : decode cX11_setWaits 0 = .ok (.aload_n 0, 1) := by decide +kernel
theorem dX11_setWaits_1 : decode cX11_setWaits 1 = .ok (.iconst 0, 1) := by decide +kernel
theorem dX11_setWaits_2 : decode cX11_setWaits 2 = .ok (.putfield 368, 3) := by decide +kernel
theorem dX11_setWaits_5 : decode cX11_setWaits 5 = .ok (.iconst 0, 1) := by decide +kernel
theorem dX11_setWaits_6 : decode cX11_setWaits 6 = .ok (.istore_n 1, 1) := by decide +kernel
theorem dX11_setWaits_7 : decode cX11_setWaits 7 = .ok (.iconst 0, 1) := by decide +kernel
theorem dX11_setWaits_8 : decode cX11_setWaits 8 = .ok (.istore_n 2, 1) := by decide +kernel
theorem dX11_setWaits_9 : decode cX11_setWaits 9 = .ok (.iload_n 2, 1) := by decide +kernel
theorem dX11_setWaits_10 : decode cX11_setWaits 10 = .ok (.aload_n 0, 1) := by decide +kernel
theorem dX11_setWaits_11 : decode cX11_setWaits 11 = .ok (.getfield 202, 3) := by decide +kernel
theorem dX11_setWaits_14 : decode cX11_setWaits 14 = .ok (.if_icmp .ge 49, 3) := by decide +kernel
theorem dX11_setWaits_17 : decode cX11_setWaits 17 = .ok (.aload_n 0, 1) := by decide +kernel
theorem dX11_setWaits_18 : decode cX11_setWaits 18 = .ok (.getfield 178, 3) := by decide +kernel
theorem dX11_setWaits_21 : decode cX11_setWaits 21 = .ok (.iload_n 2, 1) := by decide +kernel
theorem dX11_setWaits_22 : decode cX11_setWaits 22 = .ok (.iload_n 1, 1) := by decide +kernel
theorem dX11_setWaits_23 : decode cX11_setWaits 23 = .ok (.iastore, 1) := by decide +kernel
theorem dX11_setWaits_24 : decode cX11_setWaits 24 = .ok (.iconst 0, 1) := by decide +kernel
theorem dX11_setWaits_25 : decode cX11_setWaits 25 = .ok (.istore_n 3, 1) := by decide +kernel
theorem dX11_setWaits_26 : decode cX11_setWaits 26 = .ok (.iload_n 3, 1) := by decide +kernel
theorem dX11_setWaits_27 : decode cX11_setWaits 27 = .ok (.aload_n 0, 1) := by decide +kernel
theorem dX11_setWaits_28 : decode cX11_setWaits 28 = .ok (.getfield 95, 3) := by decide +kernel
theorem dX11_setWaits_31 : decode cX11_setWaits 31 = .ok (.iload_n 2, 1) := by decide +kernel
theorem dX11_setWaits_32 : decode cX11_setWaits 32 = .ok (.iaload, 1) := by decide +kernel
theorem dX11_setWaits_33 : decode cX11_setWaits 33 = .ok (.if_icmp .ge 24, 3) := by decide +kernel
theorem dX11_setWaits_36 : decode cX11_setWaits 36 = .ok (.aload_n 0, 1) := by decide +kernel
theorem dX11_setWaits_37 : decode cX11_setWaits 37 = .ok (.getfield 181, 3) := by decide +kernel
theorem dX11_setWaits_40 : decode cX11_setWaits 40 = .ok (.iload_n 1, 1) := by decide +kernel
theorem dX11_setWaits_41 : decode cX11_setWaits 41 = .ok (.aload_n 0, 1) := by decide +kernel
theorem dX11_setWaits_42 : decode cX11_setWaits 42 = .ok (.getfield 35, 3) := by decide +kernel
theorem dX11_setWaits_45 : decode cX11_setWaits 45 = .ok (.iload_n 2, 1) := by decide +kernel
theorem dX11_setWaits_46 : decode cX11_setWaits 46 = .ok (.iaload, 1) := by decide +kernel
theorem dX11_setWaits_47 : decode cX11_setWaits 47 = .ok (.iastore, 1) := by decide +kernel
theorem dX11_setWaits_48 : decode cX11_setWaits 48 = .ok (.iinc 1 1, 3) := by decide +kernel
theorem dX11_setWaits_51 : decode cX11_setWaits 51 = .ok (.iinc 3 1, 3) := by decide +kernel
theorem dX11_setWaits_54 : decode cX11_setWaits 54 = .ok (.goto (-28), 3) := by decide +kernel
theorem dX11_setWaits_57 : decode cX11_setWaits 57 = .ok (.iinc 2 1, 3) := by decide +kernel
theorem dX11_setWaits_60 : decode cX11_setWaits 60 = .ok (.goto (-51), 3) := by decide +kernel
theorem dX11_setWaits_63 : decode cX11_setWaits 63 = .ok (.iconst 0, 1) := by decide +kernel
theorem dX11_setWaits_64 : decode cX11_setWaits 64 = .ok (.istore_n 2, 1) := by decide +kernel
theorem dX11_setWaits_65 : decode cX11_setWaits 65 = .ok (.iload_n 2, 1) := by decide +kernel
theorem dX11_setWaits_66 : decode cX11_setWaits 66 = .ok (.aload_n 0, 1) := by decide +kernel
theorem dX11_setWaits_67 : decode cX11_setWaits 67 = .ok (.getfield 202, 3) := by decide +kernel
theorem dX11_setWaits_70 : decode cX11_setWaits 70 = .ok (.if_icmp .ge 72, 3) := by decide +kernel
theorem dX11_setWaits_73 : decode cX11_setWaits 73 = .ok (.iconst 0, 1) := by decide +kernel
theorem dX11_setWaits_74 : decode cX11_setWaits 74 = .ok (.istore_n 3, 1) := by decide +kernel
theorem dX11_setWaits_75 : decode cX11_setWaits 75 = .ok (.iload_n 3, 1) := by decide +kernel
theorem dX11_setWaits_76 : decode cX11_setWaits 76 = .ok (.aload_n 0, 1) := by decide +kernel
theorem dX11_setWaits_77 : decode cX11_setWaits 77 = .ok (.getfield 95, 3) := by decide +kernel
theorem dX11_setWaits_80 : decode cX11_setWaits 80 = .ok (.iload_n 2, 1) := by decide +kernel
theorem dX11_setWaits_81 : decode cX11_setWaits 81 = .ok (.iaload, 1) := by decide +kernel
theorem dX11_setWaits_82 : decode cX11_setWaits 82 = .ok (.if_icmp .ge 54, 3) := by decide +kernel
theorem dX11_setWaits_85 : decode cX11_setWaits 85 = .ok (.aload_n 0, 1) := by decide +kernel
theorem dX11_setWaits_86 : decode cX11_setWaits 86 = .ok (.aload_n 0, 1) := by decide +kernel
theorem dX11_setWaits_87 : decode cX11_setWaits 87 = .ok (.getfield 178, 3) := by decide +kernel
theorem dX11_setWaits_90 : decode cX11_setWaits 90 = .ok (.iload_n 2, 1) := by decide +kernel
theorem dX11_setWaits_91 : decode cX11_setWaits 91 = .ok (.iaload, 1) := by decide +kernel
theorem dX11_setWaits_92 : decode cX11_setWaits 92 = .ok (.iload_n 3, 1) := by decide +kernel
theorem dX11_setWaits_93 : decode cX11_setWaits 93 = .ok (.iadd, 1) := by decide +kernel
theorem dX11_setWaits_94 : decode cX11_setWaits 94 = .ok (.aload_n 0, 1) := by decide +kernel
theorem dX11_setWaits_95 : decode cX11_setWaits 95 = .ok (.getfield 178, 3) := by decide +kernel
theorem dX11_setWaits_98 : decode cX11_setWaits 98 = .ok (.iload_n 2, 1) := by decide +kernel
theorem dX11_setWaits_99 : decode cX11_setWaits 99 = .ok (.iaload, 1) := by decide +kernel
theorem dX11_setWaits_100 : decode cX11_setWaits 100 = .ok (.iload_n 3, 1) := by decide +kernel
theorem dX11_setWaits_101 : decode cX11_setWaits 101 = .ok (.aload_n 0, 1) := by decide +kernel
theorem dX11_setWaits_102 : decode cX11_setWaits 102 = .ok (.getfield 95, 3) := by decide +kernel
theorem dX11_setWaits_105 : decode cX11_setWaits 105 = .ok (.iload_n 2, 1) := by decide +kernel
theorem dX11_setWaits_106 : decode cX11_setWaits 106 = .ok (.iaload, 1) := by decide +kernel
theorem dX11_setWaits_107 : decode cX11_setWaits 107 = .ok (.iadd, 1) := by decide +kernel
theorem dX11_setWaits_108 : decode cX11_setWaits 108 = .ok (.iconst 1, 1) := by decide +kernel
theorem dX11_setWaits_109 : decode cX11_setWaits 109 = .ok (.isub, 1) := by decide +kernel
theorem dX11_setWaits_110 : decode cX11_setWaits 110 = .ok (.aload_n 0, 1) := by decide +kernel
theorem dX11_setWaits_111 : decode cX11_setWaits 111 = .ok (.getfield 95, 3) := by decide +kernel
theorem dX11_setWaits_114 : decode cX11_setWaits 114 = .ok (.iload_n 2, 1) := by decide +kernel
theorem dX11_setWaits_115 : decode cX11_setWaits 115 = .ok (.iaload, 1) := by decide +kernel
theorem dX11_setWaits_116 : decode cX11_setWaits 116 = .ok (.irem, 1) := by decide +kernel
theorem dX11_setWaits_117 : decode cX11_setWaits 117 = .ok (.iadd, 1) := by decide +kernel
theorem dX11_setWaits_118 : decode cX11_setWaits 118 = .ok (.iload_n 3, 1) := by decide +kernel
theorem dX11_setWaits_119 : decode cX11_setWaits 119 = .ok (.ifCond .ne 7, 3) := by decide +kernel
theorem dX11_setWaits_122 : decode cX11_setWaits 122 = .ok (.iconst 1, 1) := by decide +kernel
theorem dX11_setWaits_123 : decode cX11_setWaits 123 = .ok (.goto 4, 3) := by decide +kernel
theorem dX11_setWaits_126 : decode cX11_setWaits 126 = .ok (.iconst 0, 1) := by decide +kernel
theorem dX11_setWaits_127 : decode cX11_setWaits 127 = .ok (.invokevirtual 376, 3) := by decide +kernel
theorem dX11_setWaits_130 : decode cX11_setWaits 130 = .ok (.iinc 3 1, 3) := by decide +kernel
theorem dX11_setWaits_133 : decode cX11_setWaits 133 = .ok (.goto (-58), 3) := by decide +kernel
theorem dX11_setWaits_136 : decode cX11_setWaits 136 = .ok (.iinc 2 1, 3) := by decide +kernel
theorem dX11_setWaits_139 : decode cX11_setWaits 139 = .ok (.goto (-74), 3) := by decide +kernel
theorem dX11_setWaits_142 : decode cX11_setWaits 142 = .ok (.iconst 0, 1) := by decide +kernel
theorem dX11_setWaits_143 : decode cX11_setWaits 143 = .ok (.istore_n 2, 1) := by decide +kernel
theorem dX11_setWaits_144 : decode cX11_setWaits 144 = .ok (.iload_n 2, 1) := by decide +kernel
theorem dX11_setWaits_145 : decode cX11_setWaits 145 = .ok (.aload_n 0, 1) := by decide +kernel
theorem dX11_setWaits_146 : decode cX11_setWaits 146 = .ok (.getfield 209, 3) := by decide +kernel
theorem dX11_setWaits_149 : decode cX11_setWaits 149 = .ok (.if_icmp .ge 138, 3) := by decide +kernel
theorem dX11_setWaits_152 : decode cX11_setWaits 152 = .ok (.iconst 0, 1) := by decide +kernel
theorem dX11_setWaits_153 : decode cX11_setWaits 153 = .ok (.istore_n 3, 1) := by decide +kernel
theorem dX11_setWaits_154 : decode cX11_setWaits 154 = .ok (.aload_n 0, 1) := by decide +kernel
theorem dX11_setWaits_155 : decode cX11_setWaits 155 = .ok (.getfield 41, 3) := by decide +kernel
theorem dX11_setWaits_158 : decode cX11_setWaits 158 = .ok (.iload_n 2, 1) := by decide +kernel
theorem dX11_setWaits_159 : decode cX11_setWaits 159 = .ok (.iaload, 1) := by decide +kernel
theorem dX11_setWaits_160 : decode cX11_setWaits 160 = .ok (.istore 4, 2) := by decide +kernel
theorem dX11_setWaits_162 : decode cX11_setWaits 162 = .ok (.iconst 0, 1) := by decide +kernel
theorem dX11_setWaits_163 : decode cX11_setWaits 163 = .ok (.istore 5, 2) := by decide +kernel
theorem dX11_setWaits_165 : decode cX11_setWaits 165 = .ok (.iload 5, 2) := by decide +kernel
theorem dX11_setWaits_167 : decode cX11_setWaits 167 = .ok (.aload_n 0, 1) := by decide +kernel
theorem dX11_setWaits_168 : decode cX11_setWaits 168 = .ok (.getfield 95, 3) := by decide +kernel
theorem dX11_setWaits_171 : decode cX11_setWaits 171 = .ok (.aload_n 0, 1) := by decide +kernel
theorem dX11_setWaits_172 : decode cX11_setWaits 172 = .ok (.getfield 44, 3) := by decide +kernel
theorem dX11_setWaits_175 : decode cX11_setWaits 175 = .ok (.iload_n 2, 1) := by decide +kernel
theorem dX11_setWaits_176 : decode cX11_setWaits 176 = .ok (.iaload, 1) := by decide +kernel
theorem dX11_setWaits_177 : decode cX11_setWaits 177 = .ok (.iaload, 1) := by decide +kernel
theorem dX11_setWaits_178 : decode cX11_setWaits 178 = .ok (.if_icmp .ge 103, 3) := by decide +kernel
theorem dX11_setWaits_181 : decode cX11_setWaits 181 = .ok (.aload_n 0, 1) := by decide +kernel
theorem dX11_setWaits_182 : decode cX11_setWaits 182 = .ok (.getfield 50, 3) := by decide +kernel
theorem dX11_setWaits_185 : decode cX11_setWaits 185 = .ok (.iconst 4, 1) := by decide +kernel
theorem dX11_setWaits_186 : decode cX11_setWaits 186 = .ok (.iload_n 2, 1) := by decide +kernel
theorem dX11_setWaits_187 : decode cX11_setWaits 187 = .ok (.imul, 1) := by decide +kernel
theorem dX11_setWaits_188 : decode cX11_setWaits 188 = .ok (.iload 5, 2) := by decide +kernel
theorem dX11_setWaits_190 : decode cX11_setWaits 190 = .ok (.aload_n 0, 1) := by decide +kernel
theorem dX11_setWaits_191 : decode cX11_setWaits 191 = .ok (.getfield 20, 3) := by decide +kernel
theorem dX11_setWaits_194 : decode cX11_setWaits 194 = .ok (.aload_n 0, 1) := by decide +kernel
theorem dX11_setWaits_195 : decode cX11_setWaits 195 = .ok (.getfield 44, 3) := by decide +kernel
theorem dX11_setWaits_198 : decode cX11_setWaits 198 = .ok (.iload_n 2, 1) := by decide +kernel
theorem dX11_setWaits_199 : decode cX11_setWaits 199 = .ok (.iaload, 1) := by decide +kernel
theorem dX11_setWaits_200 : decode cX11_setWaits 200 = .ok (.iaload, 1) := by decide +kernel
theorem dX11_setWaits_201 : decode cX11_setWaits 201 = .ok (.irem, 1) := by decide +kernel
theorem dX11_setWaits_202 : decode cX11_setWaits 202 = .ok (.iadd, 1) := by decide +kernel
theorem dX11_setWaits_203 : decode cX11_setWaits 203 = .ok (.iaload, 1) := by decide +kernel
theorem dX11_setWaits_204 : decode cX11_setWaits 204 = .ok (.istore 6, 2) := by decide +kernel
theorem dX11_setWaits_206 : decode cX11_setWaits 206 = .ok (.iload_n 3, 1) := by decide +kernel
theorem dX11_setWaits_207 : decode cX11_setWaits 207 = .ok (.iload 6, 2) := by decide +kernel
theorem dX11_setWaits_209 : decode cX11_setWaits 209 = .ok (.iadd, 1) := by decide +kernel
theorem dX11_setWaits_210 : decode cX11_setWaits 210 = .ok (.istore_n 3, 1) := by decide +kernel
theorem dX11_setWaits_211 : decode cX11_setWaits 211 = .ok (.iload 6, 2) := by decide +kernel
theorem dX11_setWaits_213 : decode cX11_setWaits 213 = .ok (.ifCond .le 62, 3) := by decide +kernel
theorem dX11_setWaits_216 : decode cX11_setWaits 216 = .ok (.aload_n 0, 1) := by decide +kernel
theorem dX11_setWaits_217 : decode cX11_setWaits 217 = .ok (.iload_n 2, 1) := by decide +kernel
theorem dX11_setWaits_218 : decode cX11_setWaits 218 = .ok (.iload_n 3, 1) := by decide +kernel
theorem dX11_setWaits_219 : decode cX11_setWaits 219 = .ok (.invokevirtual 380, 3) := by decide +kernel
theorem dX11_setWaits_222 : decode cX11_setWaits 222 = .ok (.istore 7, 2) := by decide +kernel
theorem dX11_setWaits_224 : decode cX11_setWaits 224 = .ok (.aload_n 0, 1) := by decide +kernel
theorem dX11_setWaits_225 : decode cX11_setWaits 225 = .ok (.aload_n 0, 1) := by decide +kernel
theorem dX11_setWaits_226 : decode cX11_setWaits 226 = .ok (.getfield 178, 3) := by decide +kernel
theorem dX11_setWaits_229 : decode cX11_setWaits 229 = .ok (.aload_n 0, 1) := by decide +kernel
theorem dX11_setWaits_230 : decode cX11_setWaits 230 = .ok (.getfield 44, 3) := by decide +kernel
theorem dX11_setWaits_233 : decode cX11_setWaits 233 = .ok (.iload_n 2, 1) := by decide +kernel
theorem dX11_setWaits_234 : decode cX11_setWaits 234 = .ok (.iaload, 1) := by decide +kernel
theorem dX11_setWaits_235 : decode cX11_setWaits 235 = .ok (.iaload, 1) := by decide +kernel
theorem dX11_setWaits_236 : decode cX11_setWaits 236 = .ok (.iload 5, 2) := by decide +kernel
theorem dX11_setWaits_238 : decode cX11_setWaits 238 = .ok (.iadd, 1) := by decide +kernel
theorem dX11_setWaits_239 : decode cX11_setWaits 239 = .ok (.aload_n 0, 1) := by decide +kernel
theorem dX11_setWaits_240 : decode cX11_setWaits 240 = .ok (.getfield 178, 3) := by decide +kernel
theorem dX11_setWaits_243 : decode cX11_setWaits 243 = .ok (.iload 4, 2) := by decide +kernel
theorem dX11_setWaits_245 : decode cX11_setWaits 245 = .ok (.iaload, 1) := by decide +kernel
theorem dX11_setWaits_246 : decode cX11_setWaits 246 = .ok (.iload 7, 2) := by decide +kernel
theorem dX11_setWaits_248 : decode cX11_setWaits 248 = .ok (.aload_n 0, 1) := by decide +kernel
theorem dX11_setWaits_249 : decode cX11_setWaits 249 = .ok (.getfield 95, 3) := by decide +kernel
theorem dX11_setWaits_252 : decode cX11_setWaits 252 = .ok (.iload 4, 2) := by decide +kernel
theorem dX11_setWaits_254 : decode cX11_setWaits 254 = .ok (.iaload, 1) := by decide +kernel
theorem dX11_setWaits_255 : decode cX11_setWaits 255 = .ok (.invokestatic 371, 3) := by decide +kernel
theorem dX11_setWaits_258 : decode cX11_setWaits 258 = .ok (.iadd, 1) := by decide +kernel
theorem dX11_setWaits_259 : decode cX11_setWaits 259 = .ok (.iload 7, 2) := by decide +kernel
theorem dX11_setWaits_261 : decode cX11_setWaits 261 = .ok (.aload_n 0, 1) := by decide +kernel
theorem dX11_setWaits_262 : decode cX11_setWaits 262 = .ok (.getfield 95, 3) := by decide +kernel
theorem dX11_setWaits_265 : decode cX11_setWaits 265 = .ok (.iload 4, 2) := by decide +kernel
theorem dX11_setWaits_267 : decode cX11_setWaits 267 = .ok (.iaload, 1) := by decide +kernel
theorem dX11_setWaits_268 : decode cX11_setWaits 268 = .ok (.invokestatic 383, 3) := by decide +kernel
theorem dX11_setWaits_271 : decode cX11_setWaits 271 = .ok (.ineg, 1) := by decide +kernel
theorem dX11_setWaits_272 : decode cX11_setWaits 272 = .ok (.invokevirtual 376, 3) := by decide +kernel
theorem dX11_setWaits_275 : decode cX11_setWaits 275 = .ok (.iinc 5 1, 3) := by decide +kernel
theorem dX11_setWaits_278 : decode cX11_setWaits 278 = .ok (.goto (-113), 3) := by decide +kernel
theorem dX11_setWaits_281 : decode cX11_setWaits 281 = .ok (.iinc 2 1, 3) := by decide +kernel
theorem dX11_setWaits_284 : decode cX11_setWaits 284 = .ok (.goto (-140), 3) := by decide +kernel
theorem dX11_setWaits_287 : decode cX11_setWaits 287 = .ok (.return_, 1) := by decide +kernel
theorem dX11_isLonger_0 : decode cX11_isLonger 0 = .ok (.iconst 0, 1) := by decide +kernel
theorem dX11_isLonger_1 : decode cX11_isLonger 1 = .ok (.istore_n 1, 1) := by decide +kernel
theorem dX11_isLonger_2 : decode cX11_isLonger 2 = .ok (.iload_n 1, 1) := by decide +kernel
theorem dX11_isLonger_3 : decode cX11_isLonger 3 = .ok (.aload_n 0, 1) := by decide +kernel
theorem dX11_isLonger_4 : decode cX11_isLonger 4 = .ok (.getfield 273, 3) := by decide +kernel
theorem dX11_isLonger_7 : decode cX11_isLonger 7 = .ok (.if_icmp .ge 24, 3) := by decide +kernel
theorem dX11_isLonger_10 : decode cX11_isLonger 10 = .ok (.aload_n 0, 1) := by decide +kernel
theorem dX11_isLonger_11 : decode cX11_isLonger 11 = .ok (.getfield 193, 3) := by decide +kernel
theorem dX11_isLonger_14 : decode cX11_isLonger 14 = .ok (.iload_n 1, 1) := by decide +kernel
theorem dX11_isLonger_15 : decode cX11_isLonger 15 = .ok (.lconst 0, 1) := by decide +kernel
theorem dX11_isLonger_16 : decode cX11_isLonger 16 = .ok (.lastore, 1) := by decide +kernel
theorem dX11_isLonger_17 : decode cX11_isLonger 17 = .ok (.aload_n 0, 1) := by decide +kernel
theorem dX11_isLonger_18 : decode cX11_isLonger 18 = .ok (.getfield 196, 3) := by decide +kernel
theorem dX11_isLonger_21 : decode cX11_isLonger 21 = .ok (.iload_n 1, 1) := by decide +kernel
theorem dX11_isLonger_22 : decode cX11_isLonger 22 = .ok (.bipush (-9), 2) := by decide +kernel
theorem dX11_isLonger_24 : decode cX11_isLonger 24 = .ok (.iastore, 1) := by decide +kernel
theorem dX11_isLonger_25 : decode cX11_isLonger 25 = .ok (.iinc 1 1, 3) := by decide +kernel
theorem dX11_isLonger_28 : decode cX11_isLonger 28 = .ok (.goto (-26), 3) := by decide +kernel
theorem dX11_isLonger_31 : decode cX11_isLonger 31 = .ok (.bipush (-9), 2) := by decide +kernel
theorem dX11_isLonger_33 : decode cX11_isLonger 33 = .ok (.istore_n 1, 1) := by decide +kernel
theorem dX11_isLonger_34 : decode cX11_isLonger 34 = .ok (.iconst 0, 1) := by decide +kernel
theorem dX11_isLonger_35 : decode cX11_isLonger 35 = .ok (.istore_n 2, 1) := by decide +kernel
theorem dX11_isLonger_36 : decode cX11_isLonger 36 = .ok (.iload_n 2, 1) := by decide +kernel
theorem dX11_isLonger_37 : decode cX11_isLonger 37 = .ok (.aload_n 0, 1) := by decide +kernel
theorem dX11_isLonger_38 : decode cX11_isLonger 38 = .ok (.getfield 273, 3) := by decide +kernel
theorem dX11_isLonger_41 : decode cX11_isLonger 41 = .ok (.if_icmp .gt 127, 3) := by decide +kernel
theorem dX11_isLonger_44 : decode cX11_isLonger 44 = .ok (.bipush (-9), 2) := by decide +kernel
theorem dX11_isLonger_46 : decode cX11_isLonger 46 = .ok (.istore_n 1, 1) := by decide +kernel
theorem dX11_isLonger_47 : decode cX11_isLonger 47 = .ok (.iconst 0, 1) := by decide +kernel
theorem dX11_isLonger_48 : decode cX11_isLonger 48 = .ok (.istore_n 3, 1) := by decide +kernel
theorem dX11_isLonger_49 : decode cX11_isLonger 49 = .ok (.iload_n 3, 1) := by decide +kernel
theorem dX11_isLonger_50 : decode cX11_isLonger 50 = .ok (.aload_n 0, 1) := by decide +kernel
theorem dX11_isLonger_51 : decode cX11_isLonger 51 = .ok (.getfield 368, 3) := by decide +kernel
theorem dX11_isLonger_54 : decode cX11_isLonger 54 = .ok (.if_icmp .ge 102, 3) := by decide +kernel
theorem dX11_isLonger_57 : decode cX11_isLonger 57 = .ok (.aload_n 0, 1) := by decide +kernel
theorem dX11_isLonger_58 : decode cX11_isLonger 58 = .ok (.getfield 193, 3) := by decide +kernel
theorem dX11_isLonger_61 : decode cX11_isLonger 61 = .ok (.aload_n 0, 1) := by decide +kernel
theorem dX11_isLonger_62 : decode cX11_isLonger 62 = .ok (.getfield 187, 3) := by decide +kernel
theorem dX11_isLonger_65 : decode cX11_isLonger 65 = .ok (.iload_n 3, 1) := by decide +kernel
theorem dX11_isLonger_66 : decode cX11_isLonger 66 = .ok (.iaload, 1) := by decide +kernel
theorem dX11_isLonger_67 : decode cX11_isLonger 67 = .ok (.laload, 1) := by decide +kernel
theorem dX11_isLonger_68 : decode cX11_isLonger 68 = .ok (.aload_n 0, 1) := by decide +kernel
theorem dX11_isLonger_69 : decode cX11_isLonger 69 = .ok (.getfield 181, 3) := by decide +kernel
theorem dX11_isLonger_72 : decode cX11_isLonger 72 = .ok (.aload_n 0, 1) := by decide +kernel
theorem dX11_isLonger_73 : decode cX11_isLonger 73 = .ok (.getfield 184, 3) := by decide +kernel
theorem dX11_isLonger_76 : decode cX11_isLonger 76 = .ok (.iload_n 3, 1) := by decide +kernel
theorem dX11_isLonger_77 : decode cX11_isLonger 77 = .ok (.iaload, 1) := by decide +kernel
theorem dX11_isLonger_78 : decode cX11_isLonger 78 = .ok (.iaload, 1) := by decide +kernel
theorem dX11_isLonger_79 : decode cX11_isLonger 79 = .ok (.i2l, 1) := by decide +kernel
theorem dX11_isLonger_80 : decode cX11_isLonger 80 = .ok (.aload_n 0, 1) := by decide +kernel
theorem dX11_isLonger_81 : decode cX11_isLonger 81 = .ok (.getfield 386, 3) := by decide +kernel
theorem dX11_isLonger_84 : decode cX11_isLonger 84 = .ok (.lmul, 1) := by decide +kernel
theorem dX11_isLonger_85 : decode cX11_isLonger 85 = .ok (.ladd, 1) := by decide +kernel
theorem dX11_isLonger_86 : decode cX11_isLonger 86 = .ok (.aload_n 0, 1) := by decide +kernel
theorem dX11_isLonger_87 : decode cX11_isLonger 87 = .ok (.getfield 190, 3) := by decide +kernel
theorem dX11_isLonger_90 : decode cX11_isLonger 90 = .ok (.iload_n 3, 1) := by decide +kernel
theorem dX11_isLonger_91 : decode cX11_isLonger 91 = .ok (.iaload, 1) := by decide +kernel
theorem dX11_isLonger_92 : decode cX11_isLonger 92 = .ok (.i2l, 1) := by decide +kernel
theorem dX11_isLonger_93 : decode cX11_isLonger 93 = .ok (.aload_n 0, 1) := by decide +kernel
theorem dX11_isLonger_94 : decode cX11_isLonger 94 = .ok (.getfield 390, 3) := by decide +kernel
theorem dX11_isLonger_97 : decode cX11_isLonger 97 = .ok (.lmul, 1) := by decide +kernel
theorem dX11_isLonger_98 : decode cX11_isLonger 98 = .ok (.lsub, 1) := by decide +kernel
theorem dX11_isLonger_99 : decode cX11_isLonger 99 = .ok (.lstore 4, 2) := by decide +kernel
theorem dX11_isLonger_101 : decode cX11_isLonger 101 = .ok (.lload 4, 2) := by decide +kernel
theorem dX11_isLonger_103 : decode cX11_isLonger 103 = .ok (.aload_n 0, 1) := by decide +kernel
theorem dX11_isLonger_104 : decode cX11_isLonger 104 = .ok (.getfield 193, 3) := by decide +kernel
theorem dX11_isLonger_107 : decode cX11_isLonger 107 = .ok (.aload_n 0, 1) := by decide +kernel
theorem dX11_isLonger_108 : decode cX11_isLonger 108 = .ok (.getfield 184, 3) := by decide +kernel
theorem dX11_isLonger_111 : decode cX11_isLonger 111 = .ok (.iload_n 3, 1) := by decide +kernel
theorem dX11_isLonger_112 : decode cX11_isLonger 112 = .ok (.iaload, 1) := by decide +kernel
theorem dX11_isLonger_113 : decode cX11_isLonger 113 = .ok (.laload, 1) := by decide +kernel
theorem dX11_isLonger_114 : decode cX11_isLonger 114 = .ok (.lcmp, 1) := by decide +kernel
theorem dX11_isLonger_115 : decode cX11_isLonger 115 = .ok (.ifCond .le 35, 3) := by decide +kernel
theorem dX11_isLonger_118 : decode cX11_isLonger 118 = .ok (.aload_n 0, 1) := by decide +kernel
theorem dX11_isLonger_119 : decode cX11_isLonger 119 = .ok (.getfield 193, 3) := by decide +kernel
theorem dX11_isLonger_122 : decode cX11_isLonger 122 = .ok (.aload_n 0, 1) := by decide +kernel
theorem dX11_isLonger_123 : decode cX11_isLonger 123 = .ok (.getfield 184, 3) := by decide +kernel
theorem dX11_isLonger_126 : decode cX11_isLonger 126 = .ok (.iload_n 3, 1) := by decide +kernel
theorem dX11_isLonger_127 : decode cX11_isLonger 127 = .ok (.iaload, 1) := by decide +kernel
theorem dX11_isLonger_128 : decode cX11_isLonger 128 = .ok (.lload 4, 2) := by decide +kernel
theorem dX11_isLonger_130 : decode cX11_isLonger 130 = .ok (.lastore, 1) := by decide +kernel
theorem dX11_isLonger_131 : decode cX11_isLonger 131 = .ok (.aload_n 0, 1) := by decide +kernel
theorem dX11_isLonger_132 : decode cX11_isLonger 132 = .ok (.getfield 196, 3) := by decide +kernel
theorem dX11_isLonger_135 : decode cX11_isLonger 135 = .ok (.aload_n 0, 1) := by decide +kernel
theorem dX11_isLonger_136 : decode cX11_isLonger 136 = .ok (.getfield 184, 3) := by decide +kernel
theorem dX11_isLonger_139 : decode cX11_isLonger 139 = .ok (.iload_n 3, 1) := by decide +kernel
theorem dX11_isLonger_140 : decode cX11_isLonger 140 = .ok (.iaload, 1) := by decide +kernel
theorem dX11_isLonger_141 : decode cX11_isLonger 141 = .ok (.iload_n 3, 1) := by decide +kernel
theorem dX11_isLonger_142 : decode cX11_isLonger 142 = .ok (.iastore, 1) := by decide +kernel
theorem dX11_isLonger_143 : decode cX11_isLonger 143 = .ok (.aload_n 0, 1) := by decide +kernel
theorem dX11_isLonger_144 : decode cX11_isLonger 144 = .ok (.getfield 184, 3) := by decide +kernel
theorem dX11_isLonger_147 : decode cX11_isLonger 147 = .ok (.iload_n 3, 1) := by decide +kernel
theorem dX11_isLonger_148 : decode cX11_isLonger 148 = .ok (.iaload, 1) := by decide +kernel
theorem dX11_isLonger_149 : decode cX11_isLonger 149 = .ok (.istore_n 1, 1) := by decide +kernel
theorem dX11_isLonger_150 : decode cX11_isLonger 150 = .ok (.iinc 3 1, 3) := by decide +kernel
theorem dX11_isLonger_153 : decode cX11_isLonger 153 = .ok (.goto (-104), 3) := by decide +kernel
theorem dX11_isLonger_156 : decode cX11_isLonger 156 = .ok (.iload_n 1, 1) := by decide +kernel
theorem dX11_isLonger_157 : decode cX11_isLonger 157 = .ok (.ifCond .ge 5, 3) := by decide +kernel
theorem dX11_isLonger_160 : decode cX11_isLonger 160 = .ok (.iconst 0, 1) := by decide +kernel
theorem dX11_isLonger_161 : decode cX11_isLonger 161 = .ok (.ireturn, 1) := by decide +kernel
theorem dX11_isLonger_162 : decode cX11_isLonger 162 = .ok (.iinc 2 1, 3) := by decide +kernel
theorem dX11_isLonger_165 : decode cX11_isLonger 165 = .ok (.goto (-129), 3) := by decide +kernel
theorem dX11_isLonger_168 : decode cX11_isLonger 168 = .ok (.iload_n 1, 1) := by decide +kernel
theorem dX11_isLonger_169 : decode cX11_isLonger 169 = .ok (.istore_n 2, 1) := by decide +kernel
theorem dX11_isLonger_170 : decode cX11_isLonger 170 = .ok (.iconst 0, 1) := by decide +kernel
theorem dX11_isLonger_171 : decode cX11_isLonger 171 = .ok (.istore_n 3, 1) := by decide +kernel
theorem dX11_isLonger_172 : decode cX11_isLonger 172 = .ok (.iload_n 3, 1) := by decide +kernel
theorem dX11_isLonger_173 : decode cX11_isLonger 173 = .ok (.aload_n 0, 1) := by decide +kernel
theorem dX11_isLonger_174 : decode cX11_isLonger 174 = .ok (.getfield 273, 3) := by decide +kernel
theorem dX11_isLonger_177 : decode cX11_isLonger 177 = .ok (.if_icmp .ge 21, 3) := by decide +kernel
theorem dX11_isLonger_180 : decode cX11_isLonger 180 = .ok (.aload_n 0, 1) := by decide +kernel
theorem dX11_isLonger_181 : decode cX11_isLonger 181 = .ok (.getfield 187, 3) := by decide +kernel
theorem dX11_isLonger_184 : decode cX11_isLonger 184 = .ok (.aload_n 0, 1) := by decide +kernel
theorem dX11_isLonger_185 : decode cX11_isLonger 185 = .ok (.getfield 196, 3) := by decide +kernel
theorem dX11_isLonger_188 : decode cX11_isLonger 188 = .ok (.iload_n 2, 1) := by decide +kernel
theorem dX11_isLonger_189 : decode cX11_isLonger 189 = .ok (.iaload, 1) := by decide +kernel
theorem dX11_isLonger_190 : decode cX11_isLonger 190 = .ok (.iaload, 1) := by decide +kernel
theorem dX11_isLonger_191 : decode cX11_isLonger 191 = .ok (.istore_n 2, 1) := by decide +kernel
theorem dX11_isLonger_192 : decode cX11_isLonger 192 = .ok (.iinc 3 1, 3) := by decide +kernel
theorem dX11_isLonger_195 : decode cX11_isLonger 195 = .ok (.goto (-23), 3) := by decide +kernel
theorem dX11_isLonger_198 : decode cX11_isLonger 198 = .ok (.lconst 0, 1) := by decide +kernel
theorem dX11_isLonger_199 : decode cX11_isLonger 199 = .ok (.lstore_n 3, 1) := by decide +kernel
theorem dX11_isLonger_200 : decode cX11_isLonger 200 = .ok (.lconst 0, 1) := by decide +kernel
theorem dX11_isLonger_201 : decode cX11_isLonger 201 = .ok (.lstore 5, 2) := by decide +kernel
theorem dX11_isLonger_203 : decode cX11_isLonger 203 = .ok (.iload_n 2, 1) := by decide +kernel
theorem dX11_isLonger_204 : decode cX11_isLonger 204 = .ok (.istore 7, 2) := by decide +kernel
theorem dX11_isLonger_206 : decode cX11_isLonger 206 = .ok (.iconst 1, 1) := by decide +kernel
theorem dX11_isLonger_207 : decode cX11_isLonger 207 = .ok (.istore 8, 2) := by decide +kernel
theorem dX11_isLonger_209 : decode cX11_isLonger 209 = .ok (.iload 8, 2) := by decide +kernel
theorem dX11_isLonger_211 : decode cX11_isLonger 211 = .ok (.ifCond .eq 62, 3) := by decide +kernel
theorem dX11_isLonger_214 : decode cX11_isLonger 214 = .ok (.lload_n 3, 1) := by decide +kernel
theorem dX11_isLonger_215 : decode cX11_isLonger 215 = .ok (.aload_n 0, 1) := by decide +kernel
theorem dX11_isLonger_216 : decode cX11_isLonger 216 = .ok (.getfield 181, 3) := by decide +kernel
theorem dX11_isLonger_219 : decode cX11_isLonger 219 = .ok (.iload 7, 2) := by decide +kernel
theorem dX11_isLonger_221 : decode cX11_isLonger 221 = .ok (.iaload, 1) := by decide +kernel
theorem dX11_isLonger_222 : decode cX11_isLonger 222 = .ok (.i2l, 1) := by decide +kernel
theorem dX11_isLonger_223 : decode cX11_isLonger 223 = .ok (.ladd, 1) := by decide +kernel
theorem dX11_isLonger_224 : decode cX11_isLonger 224 = .ok (.lstore_n 3, 1) := by decide +kernel
theorem dX11_isLonger_225 : decode cX11_isLonger 225 = .ok (.lload 5, 2) := by decide +kernel
theorem dX11_isLonger_227 : decode cX11_isLonger 227 = .ok (.aload_n 0, 1) := by decide +kernel
theorem dX11_isLonger_228 : decode cX11_isLonger 228 = .ok (.getfield 190, 3) := by decide +kernel
theorem dX11_isLonger_231 : decode cX11_isLonger 231 = .ok (.aload_n 0, 1) := by decide +kernel
theorem dX11_isLonger_232 : decode cX11_isLonger 232 = .ok (.getfield 196, 3) := by decide +kernel
theorem dX11_isLonger_235 : decode cX11_isLonger 235 = .ok (.iload 7, 2) := by decide +kernel
theorem dX11_isLonger_237 : decode cX11_isLonger 237 = .ok (.iaload, 1) := by decide +kernel
theorem dX11_isLonger_238 : decode cX11_isLonger 238 = .ok (.iaload, 1) := by decide +kernel
theorem dX11_isLonger_239 : decode cX11_isLonger 239 = .ok (.i2l, 1) := by decide +kernel
theorem dX11_isLonger_240 : decode cX11_isLonger 240 = .ok (.ladd, 1) := by decide +kernel
theorem dX11_isLonger_241 : decode cX11_isLonger 241 = .ok (.lstore 5, 2) := by decide +kernel
theorem dX11_isLonger_243 : decode cX11_isLonger 243 = .ok (.aload_n 0, 1) := by decide +kernel
theorem dX11_isLonger_244 : decode cX11_isLonger 244 = .ok (.getfield 187, 3) := by decide +kernel
theorem dX11_isLonger_247 : decode cX11_isLonger 247 = .ok (.aload_n 0, 1) := by decide +kernel
theorem dX11_isLonger_248 : decode cX11_isLonger 248 = .ok (.getfield 196, 3) := by decide +kernel
theorem dX11_isLonger_251 : decode cX11_isLonger 251 = .ok (.iload 7, 2) := by decide +kernel
theorem dX11_isLonger_253 : decode cX11_isLonger 253 = .ok (.iaload, 1) := by decide +kernel
theorem dX11_isLonger_254 : decode cX11_isLonger 254 = .ok (.iaload, 1) := by decide +kernel
theorem dX11_isLonger_255 : decode cX11_isLonger 255 = .ok (.istore 7, 2) := by decide +kernel
theorem dX11_isLonger_257 : decode cX11_isLonger 257 = .ok (.iload 7, 2) := by decide +kernel
theorem dX11_isLonger_259 : decode cX11_isLonger 259 = .ok (.iload_n 2, 1) := by decide +kernel
theorem dX11_isLonger_260 : decode cX11_isLonger 260 = .ok (.if_icmp .eq 7, 3) := by decide +kernel
theorem dX11_isLonger_263 : decode cX11_isLonger 263 = .ok (.iconst 1, 1) := by decide +kernel
theorem dX11_isLonger_264 : decode cX11_isLonger 264 = .ok (.goto 4, 3) := by decide +kernel
theorem dX11_isLonger_267 : decode cX11_isLonger 267 = .ok (.iconst 0, 1) := by decide +kernel
theorem dX11_isLonger_268 : decode cX11_isLonger 268 = .ok (.istore 8, 2) := by decide +kernel
theorem dX11_isLonger_270 : decode cX11_isLonger 270 = .ok (.goto (-61), 3) := by decide +kernel
theorem dX11_isLonger_273 : decode cX11_isLonger 273 = .ok (.lload_n 3, 1) := by decide +kernel
theorem dX11_isLonger_274 : decode cX11_isLonger 274 = .ok (.lload 5, 2) := by decide +kernel
theorem dX11_isLonger_276 : decode cX11_isLonger 276 = .ok (.invokestatic 248, 3) := by decide +kernel
theorem dX11_isLonger_279 : decode cX11_isLonger 279 = .ok (.lstore 9, 2) := by decide +kernel
theorem dX11_isLonger_281 : decode cX11_isLonger 281 = .ok (.aload_n 0, 1) := by decide +kernel
theorem dX11_isLonger_282 : decode cX11_isLonger 282 = .ok (.lload_n 3, 1) := by decide +kernel
theorem dX11_isLonger_283 : decode cX11_isLonger 283 = .ok (.lload 9, 2) := by decide +kernel
theorem dX11_isLonger_285 : decode cX11_isLonger 285 = .ok (.ldiv, 1) := by decide +kernel
theorem dX11_isLonger_286 : decode cX11_isLonger 286 = .ok (.putfield 390, 3) := by decide +kernel
theorem dX11_isLonger_289 : decode cX11_isLonger 289 = .ok (.aload_n 0, 1) := by decide +kernel
theorem dX11_isLonger_290 : decode cX11_isLonger 290 = .ok (.lload 5, 2) := by decide +kernel
theorem dX11_isLonger_292 : decode cX11_isLonger 292 = .ok (.lload 9, 2) := by decide +kernel
theorem dX11_isLonger_294 : decode cX11_isLonger 294 = .ok (.ldiv, 1) := by decide +kernel
theorem dX11_isLonger_295 : decode cX11_isLonger 295 = .ok (.putfield 386, 3) := by decide +kernel
theorem dX11_isLonger_298 : decode cX11_isLonger 298 = .ok (.iconst 1, 1) := by decide +kernel
theorem dX11_isLonger_299 : decode cX11_isLonger 299 = .ok (.ireturn, 1) := by decide +kernel
theorem dX11_beat_0 : decode cX11_beat 0 = .ok (.aload_n 0, 1) := by decide +kernel
theorem dX11_beat_1 : decode cX11_beat 1 = .ok (.iconst 1, 1) := by decide +kernel
theorem dX11_beat_2 : decode cX11_beat 2 = .ok (.invokevirtual 304, 3) := by decide +kernel
theorem dX11_beat_5 : decode cX11_beat 5 = .ok (.istore_n 2, 1) := by decide +kernel
theorem dX11_beat_6 : decode cX11_beat 6 = .ok (.iload_n 2, 1) := by decide +kernel
theorem dX11_beat_7 : decode cX11_beat 7 = .ok (.ifCond .ge 5, 3) := by decide +kernel
theorem dX11_beat_10 : decode cX11_beat 10 = .ok (.iload_n 2, 1) := by decide +kernel
theorem dX11_beat_11 : decode cX11_beat 11 = .ok (.ireturn, 1) := by decide +kernel
theorem dX11_beat_12 : decode cX11_beat 12 = .ok (.aload_n 0, 1) := by decide +kernel
theorem dX11_beat_13 : decode cX11_beat 13 = .ok (.getfield 273, 3) := by decide +kernel
theorem dX11_beat_16 : decode cX11_beat 16 = .ok (.bipush 60, 2) := by decide +kernel
theorem dX11_beat_18 : decode cX11_beat 18 = .ok (.if_icmp .le 6, 3) := by decide +kernel
theorem dX11_beat_21 : decode cX11_beat 21 = .ok (.bipush (-4), 2) := by decide +kernel
theorem dX11_beat_23 : decode cX11_beat 23 = .ok (.ireturn, 1) := by decide +kernel
theorem dX11_beat_24 : decode cX11_beat 24 = .ok (.aload_n 0, 1) := by decide +kernel
theorem dX11_beat_25 : decode cX11_beat 25 = .ok (.invokevirtual 393, 3) := by decide +kernel
theorem dX11_beat_28 : decode cX11_beat 28 = .ok (.aload_n 0, 1) := by decide +kernel
theorem dX11_beat_29 : decode cX11_beat 29 = .ok (.lconst 0, 1) := by decide +kernel
theorem dX11_beat_30 : decode cX11_beat 30 = .ok (.putfield 390, 3) := by decide +kernel
theorem dX11_beat_33 : decode cX11_beat 33 = .ok (.aload_n 0, 1) := by decide +kernel
theorem dX11_beat_34 : decode cX11_beat 34 = .ok (.lconst 1, 1) := by decide +kernel
theorem dX11_beat_35 : decode cX11_beat 35 = .ok (.putfield 386, 3) := by decide +kernel
theorem dX11_beat_38 : decode cX11_beat 38 = .ok (.iconst 1, 1) := by decide +kernel
theorem dX11_beat_39 : decode cX11_beat 39 = .ok (.istore_n 3, 1) := by decide +kernel
theorem dX11_beat_40 : decode cX11_beat 40 = .ok (.iload_n 3, 1) := by decide +kernel
theorem dX11_beat_41 : decode cX11_beat 41 = .ok (.ifCond .eq 11, 3) := by decide +kernel
theorem dX11_beat_44 : decode cX11_beat 44 = .ok (.aload_n 0, 1) := by decide +kernel
theorem dX11_beat_45 : decode cX11_beat 45 = .ok (.invokevirtual 396, 3) := by decide +kernel
theorem dX11_beat_48 : decode cX11_beat 48 = .ok (.istore_n 3, 1) := by decide +kernel
theorem dX11_beat_49 : decode cX11_beat 49 = .ok (.goto (-9), 3) := by decide +kernel
theorem dX11_beat_52 : decode cX11_beat 52 = .ok (.iload_n 1, 1) := by decide +kernel
theorem dX11_beat_53 : decode cX11_beat 53 = .ok (.ifCond .eq 10, 3) := by decide +kernel
theorem dX11_beat_56 : decode cX11_beat 56 = .ok (.aload_n 0, 1) := by decide +kernel
theorem dX11_beat_57 : decode cX11_beat 57 = .ok (.getfield 386, 3) := by decide +kernel
theorem dX11_beat_60 : decode cX11_beat 60 = .ok (.goto 7, 3) := by decide +kernel
theorem dX11_beat_63 : decode cX11_beat 63 = .ok (.aload_n 0, 1) := by decide +kernel
theorem dX11_beat_64 : decode cX11_beat 64 = .ok (.getfield 390, 3) := by decide +kernel
theorem dX11_beat_67 : decode cX11_beat 67 = .ok (.l2i, 1) := by decide +kernel
theorem dX11_beat_68 : decode cX11_beat 68 = .ok (.ireturn, 1) := by decide +kernel
theorem dX11_mayFire_0 : decode cX11_mayFire 0 = .ok (.iconst 1, 1) := by decide +kernel
theorem dX11_mayFire_1 : decode cX11_mayFire 1 = .ok (.istore_n 2, 1) := by decide +kernel
theorem dX11_mayFire_2 : decode cX11_mayFire 2 = .ok (.iconst 0, 1) := by decide +kernel
theorem dX11_mayFire_3 : decode cX11_mayFire 3 = .ok (.istore_n 3, 1) := by decide +kernel
theorem dX11_mayFire_4 : decode cX11_mayFire 4 = .ok (.iload_n 3, 1) := by decide +kernel
theorem dX11_mayFire_5 : decode cX11_mayFire 5 = .ok (.aload_n 0, 1) := by decide +kernel
theorem dX11_mayFire_6 : decode cX11_mayFire 6 = .ok (.getfield 209, 3) := by decide +kernel
theorem dX11_mayFire_9 : decode cX11_mayFire 9 = .ok (.if_icmp .ge 53, 3) := by decide +kernel
theorem dX11_mayFire_12 : decode cX11_mayFire 12 = .ok (.iload_n 2, 1) := by decide +kernel
theorem dX11_mayFire_13 : decode cX11_mayFire 13 = .ok (.ifCond .eq 41, 3) := by decide +kernel
theorem dX11_mayFire_16 : decode cX11_mayFire 16 = .ok (.aload_n 0, 1) := by decide +kernel
theorem dX11_mayFire_17 : decode cX11_mayFire 17 = .ok (.getfield 44, 3) := by decide +kernel
theorem dX11_mayFire_20 : decode cX11_mayFire 20 = .ok (.iload_n 3, 1) := by decide +kernel
theorem dX11_mayFire_21 : decode cX11_mayFire 21 = .ok (.iaload, 1) := by decide +kernel
theorem dX11_mayFire_22 : decode cX11_mayFire 22 = .ok (.iload_n 1, 1) := by decide +kernel
theorem dX11_mayFire_23 : decode cX11_mayFire 23 = .ok (.if_icmp .ne 27, 3) := by decide +kernel
theorem dX11_mayFire_26 : decode cX11_mayFire 26 = .ok (.aload_n 0, 1) := by decide +kernel
theorem dX11_mayFire_27 : decode cX11_mayFire 27 = .ok (.getfield 65, 3) := by decide +kernel
theorem dX11_mayFire_30 : decode cX11_mayFire 30 = .ok (.iload_n 3, 1) := by decide +kernel
theorem dX11_mayFire_31 : decode cX11_mayFire 31 = .ok (.iaload, 1) := by decide +kernel
theorem dX11_mayFire_32 : decode cX11_mayFire 32 = .ok (.aload_n 0, 1) := by decide +kernel
theorem dX11_mayFire_33 : decode cX11_mayFire 33 = .ok (.getfield 50, 3) := by decide +kernel
theorem dX11_mayFire_36 : decode cX11_mayFire 36 = .ok (.iconst 4, 1) := by decide +kernel
theorem dX11_mayFire_37 : decode cX11_mayFire 37 = .ok (.iload_n 3, 1) := by decide +kernel
theorem dX11_mayFire_38 : decode cX11_mayFire 38 = .ok (.imul, 1) := by decide +kernel
theorem dX11_mayFire_39 : decode cX11_mayFire 39 = .ok (.aload_n 0, 1) := by decide +kernel
theorem dX11_mayFire_40 : decode cX11_mayFire 40 = .ok (.getfield 59, 3) := by decide +kernel
theorem dX11_mayFire_43 : decode cX11_mayFire 43 = .ok (.iload_n 1, 1) := by decide +kernel
theorem dX11_mayFire_44 : decode cX11_mayFire 44 = .ok (.iaload, 1) := by decide +kernel
theorem dX11_mayFire_45 : decode cX11_mayFire 45 = .ok (.iadd, 1) := by decide +kernel
theorem dX11_mayFire_46 : decode cX11_mayFire 46 = .ok (.iaload, 1) := by decide +kernel
theorem dX11_mayFire_47 : decode cX11_mayFire 47 = .ok (.if_icmp .lt 7, 3) := by decide +kernel
theorem dX11_mayFire_50 : decode cX11_mayFire 50 = .ok (.iconst 1, 1) := by decide +kernel
theorem dX11_mayFire_51 : decode cX11_mayFire 51 = .ok (.goto 4, 3) := by decide +kernel
theorem dX11_mayFire_54 : decode cX11_mayFire 54 = .ok (.iconst 0, 1) := by decide +kernel
theorem dX11_mayFire_55 : decode cX11_mayFire 55 = .ok (.istore_n 2, 1) := by decide +kernel
theorem dX11_mayFire_56 : decode cX11_mayFire 56 = .ok (.iinc 3 1, 3) := by decide +kernel
theorem dX11_mayFire_59 : decode cX11_mayFire 59 = .ok (.goto (-55), 3) := by decide +kernel
theorem dX11_mayFire_62 : decode cX11_mayFire 62 = .ok (.iload_n 2, 1) := by decide +kernel
theorem dX11_mayFire_63 : decode cX11_mayFire 63 = .ok (.ireturn, 1) := by decide +kernel
theorem dX11_may_0 : decode cX11_may 0 = .ok (.aload_n 0, 1) := by decide +kernel
theorem dX11_may_1 : decode cX11_may 1 = .ok (.iload_n 1, 1) := by decide +kernel
theorem dX11_may_2 : decode cX11_may 2 = .ok (.invokevirtual 228, 3) := by decide +kernel
theorem dX11_may_5 : decode cX11_may 5 = .ok (.ifCond .ne 7, 3) := by decide +kernel
theorem dX11_may_8 : decode cX11_may 8 = .ok (.iconst (-1), 1) := by decide +kernel
theorem dX11_may_9 : decode cX11_may 9 = .ok (.goto 16, 3) := by decide +kernel
theorem dX11_may_12 : decode cX11_may 12 = .ok (.aload_n 0, 1) := by decide +kernel
theorem dX11_may_13 : decode cX11_may 13 = .ok (.iload_n 1, 1) := by decide +kernel
theorem dX11_may_14 : decode cX11_may 14 = .ok (.invokevirtual 399, 3) := by decide +kernel
theorem dX11_may_17 : decode cX11_may 17 = .ok (.ifCond .eq 7, 3) := by decide +kernel
theorem dX11_may_20 : decode cX11_may 20 = .ok (.iconst 1, 1) := by decide +kernel
theorem dX11_may_21 : decode cX11_may 21 = .ok (.goto 4, 3) := by decide +kernel
theorem dX11_may_24 : decode cX11_may 24 = .ok (.iconst 0, 1) := by decide +kernel
theorem dX11_may_25 : decode cX11_may 25 = .ok (.ireturn, 1) := by decide +kernel
theorem dX11_isRoom_0 : decode cX11_isRoom 0 = .ok (.iconst 1, 1) := by decide +kernel
theorem dX11_isRoom_1 : decode cX11_isRoom 1 = .ok (.istore_n 2, 1) := by decide +kernel
theorem dX11_isRoom_2 : decode cX11_isRoom 2 = .ok (.iconst 0, 1) := by decide +kernel
theorem dX11_isRoom_3 : decode cX11_isRoom 3 = .ok (.istore_n 3, 1) := by decide +kernel
theorem dX11_isRoom_4 : decode cX11_isRoom 4 = .ok (.iload_n 3, 1) := by decide +kernel
theorem dX11_isRoom_5 : decode cX11_isRoom 5 = .ok (.aload_n 0, 1) := by decide +kernel
theorem dX11_isRoom_6 : decode cX11_isRoom 6 = .ok (.getfield 209, 3) := by decide +kernel
theorem dX11_isRoom_9 : decode cX11_isRoom 9 = .ok (.if_icmp .ge 95, 3) := by decide +kernel
theorem dX11_isRoom_12 : decode cX11_isRoom 12 = .ok (.aload_n 0, 1) := by decide +kernel
theorem dX11_isRoom_13 : decode cX11_isRoom 13 = .ok (.getfield 65, 3) := by decide +kernel
theorem dX11_isRoom_16 : decode cX11_isRoom 16 = .ok (.iload_n 3, 1) := by decide +kernel
theorem dX11_isRoom_17 : decode cX11_isRoom 17 = .ok (.iaload, 1) := by decide +kernel
theorem dX11_isRoom_18 : decode cX11_isRoom 18 = .ok (.aload_n 0, 1) := by decide +kernel
theorem dX11_isRoom_19 : decode cX11_isRoom 19 = .ok (.getfield 44, 3) := by decide +kernel
theorem dX11_isRoom_22 : decode cX11_isRoom 22 = .ok (.iload_n 3, 1) := by decide +kernel
theorem dX11_isRoom_23 : decode cX11_isRoom 23 = .ok (.iaload, 1) := by decide +kernel
theorem dX11_isRoom_24 : decode cX11_isRoom 24 = .ok (.iload_n 1, 1) := by decide +kernel
theorem dX11_isRoom_25 : decode cX11_isRoom 25 = .ok (.if_icmp .ne 21, 3) := by decide +kernel
theorem dX11_isRoom_28 : decode cX11_isRoom 28 = .ok (.aload_n 0, 1) := by decide +kernel
theorem dX11_isRoom_29 : decode cX11_isRoom 29 = .ok (.getfield 50, 3) := by decide +kernel
theorem dX11_isRoom_32 : decode cX11_isRoom 32 = .ok (.iconst 4, 1) := by decide +kernel
theorem dX11_isRoom_33 : decode cX11_isRoom 33 = .ok (.iload_n 3, 1) := by decide +kernel
theorem dX11_isRoom_34 : decode cX11_isRoom 34 = .ok (.imul, 1) := by decide +kernel
theorem dX11_isRoom_35 : decode cX11_isRoom 35 = .ok (.aload_n 0, 1) := by decide +kernel
theorem dX11_isRoom_36 : decode cX11_isRoom 36 = .ok (.getfield 59, 3) := by decide +kernel
theorem dX11_isRoom_39 : decode cX11_isRoom 39 = .ok (.iload_n 1, 1) := by decide +kernel
theorem dX11_isRoom_40 : decode cX11_isRoom 40 = .ok (.iaload, 1) := by decide +kernel
theorem dX11_isRoom_41 : decode cX11_isRoom 41 = .ok (.iadd, 1) := by decide +kernel
theorem dX11_isRoom_42 : decode cX11_isRoom 42 = .ok (.iaload, 1) := by decide +kernel
theorem dX11_isRoom_43 : decode cX11_isRoom 43 = .ok (.goto 4, 3) := by decide +kernel
theorem dX11_isRoom_46 : decode cX11_isRoom 46 = .ok (.iconst 0, 1) := by decide +kernel
theorem dX11_isRoom_47 : decode cX11_isRoom 47 = .ok (.isub, 1) := by decide +kernel
theorem dX11_isRoom_48 : decode cX11_isRoom 48 = .ok (.aload_n 0, 1) := by decide +kernel
theorem dX11_isRoom_49 : decode cX11_isRoom 49 = .ok (.getfield 41, 3) := by decide +kernel
theorem dX11_isRoom_52 : decode cX11_isRoom 52 = .ok (.iload_n 3, 1) := by decide +kernel
theorem dX11_isRoom_53 : decode cX11_isRoom 53 = .ok (.iaload, 1) := by decide +kernel
theorem dX11_isRoom_54 : decode cX11_isRoom 54 = .ok (.iload_n 1, 1) := by decide +kernel
theorem dX11_isRoom_55 : decode cX11_isRoom 55 = .ok (.if_icmp .ne 21, 3) := by decide +kernel
theorem dX11_isRoom_58 : decode cX11_isRoom 58 = .ok (.aload_n 0, 1) := by decide +kernel
theorem dX11_isRoom_59 : decode cX11_isRoom 59 = .ok (.getfield 47, 3) := by decide +kernel
theorem dX11_isRoom_62 : decode cX11_isRoom 62 = .ok (.iconst 4, 1) := by decide +kernel
theorem dX11_isRoom_63 : decode cX11_isRoom 63 = .ok (.iload_n 3, 1) := by decide +kernel
theorem dX11_isRoom_64 : decode cX11_isRoom 64 = .ok (.imul, 1) := by decide +kernel
theorem dX11_isRoom_65 : decode cX11_isRoom 65 = .ok (.aload_n 0, 1) := by decide +kernel
theorem dX11_isRoom_66 : decode cX11_isRoom 66 = .ok (.getfield 59, 3) := by decide +kernel
theorem dX11_isRoom_69 : decode cX11_isRoom 69 = .ok (.iload_n 1, 1) := by decide +kernel
theorem dX11_isRoom_70 : decode cX11_isRoom 70 = .ok (.iaload, 1) := by decide +kernel
theorem dX11_isRoom_71 : decode cX11_isRoom 71 = .ok (.iadd, 1) := by decide +kernel
theorem dX11_isRoom_72 : decode cX11_isRoom 72 = .ok (.iaload, 1) := by decide +kernel
theorem dX11_isRoom_73 : decode cX11_isRoom 73 = .ok (.goto 4, 3) := by decide +kernel
theorem dX11_isRoom_76 : decode cX11_isRoom 76 = .ok (.iconst 0, 1) := by decide +kernel
theorem dX11_isRoom_77 : decode cX11_isRoom 77 = .ok (.iadd, 1) := by decide +kernel
theorem dX11_isRoom_78 : decode cX11_isRoom 78 = .ok (.istore 4, 2) := by decide +kernel
theorem dX11_isRoom_80 : decode cX11_isRoom 80 = .ok (.iload_n 2, 1) := by decide +kernel
theorem dX11_isRoom_81 : decode cX11_isRoom 81 = .ok (.ifCond .eq 15, 3) := by decide +kernel
theorem dX11_isRoom_84 : decode cX11_isRoom 84 = .ok (.iload 4, 2) := by decide +kernel
theorem dX11_isRoom_86 : decode cX11_isRoom 86 = .ok (.sipush 400, 3) := by decide +kernel
theorem dX11_isRoom_89 : decode cX11_isRoom 89 = .ok (.if_icmp .gt 7, 3) := by decide +kernel
theorem dX11_isRoom_92 : decode cX11_isRoom 92 = .ok (.iconst 1, 1) := by decide +kernel
theorem dX11_isRoom_93 : decode cX11_isRoom 93 = .ok (.goto 4, 3) := by decide +kernel
theorem dX11_isRoom_96 : decode cX11_isRoom 96 = .ok (.iconst 0, 1) := by decide +kernel
theorem dX11_isRoom_97 : decode cX11_isRoom 97 = .ok (.istore_n 2, 1) := by decide +kernel
theorem dX11_isRoom_98 : decode cX11_isRoom 98 = .ok (.iinc 3 1, 3) := by decide +kernel
theorem dX11_isRoom_101 : decode cX11_isRoom 101 = .ok (.goto (-97), 3) := by decide +kernel
theorem dX11_isRoom_104 : decode cX11_isRoom 104 = .ok (.iload_n 2, 1) := by decide +kernel
theorem dX11_isRoom_105 : decode cX11_isRoom 105 = .ok (.ireturn, 1) := by decide +kernel
theorem dX11_body_0 : decode cX11_body 0 = .ok (.aload_n 0, 1) := by decide +kernel
theorem dX11_body_1 : decode cX11_body 1 = .ok (.getfield 77, 3) := by decide +kernel
theorem dX11_body_4 : decode cX11_body 4 = .ok (.aload_n 0, 1) := by decide +kernel
theorem dX11_body_5 : decode cX11_body 5 = .ok (.getfield 402, 3) := by decide +kernel
theorem dX11_body_8 : decode cX11_body 8 = .ok (.iload_n 1, 1) := by decide +kernel
theorem dX11_body_9 : decode cX11_body 9 = .ok (.iastore, 1) := by decide +kernel
theorem dX11_body_10 : decode cX11_body 10 = .ok (.aload_n 0, 1) := by decide +kernel
theorem dX11_body_11 : decode cX11_body 11 = .ok (.dup, 1) := by decide +kernel
theorem dX11_body_12 : decode cX11_body 12 = .ok (.getfield 402, 3) := by decide +kernel
theorem dX11_body_15 : decode cX11_body 15 = .ok (.iconst 1, 1) := by decide +kernel
theorem dX11_body_16 : decode cX11_body 16 = .ok (.iadd, 1) := by decide +kernel
theorem dX11_body_17 : decode cX11_body 17 = .ok (.putfield 402, 3) := by decide +kernel
theorem dX11_body_20 : decode cX11_body 20 = .ok (.return_, 1) := by decide +kernel
theorem dX11_summed_0 : decode cX11_summed 0 = .ok (.aload_n 0, 1) := by decide +kernel
theorem dX11_summed_1 : decode cX11_summed 1 = .ok (.getfield 16, 3) := by decide +kernel
theorem dX11_summed_4 : decode cX11_summed 4 = .ok (.iload_n 1, 1) := by decide +kernel
theorem dX11_summed_5 : decode cX11_summed 5 = .ok (.laload, 1) := by decide +kernel
theorem dX11_summed_6 : decode cX11_summed 6 = .ok (.lstore_n 2, 1) := by decide +kernel
theorem dX11_summed_7 : decode cX11_summed 7 = .ok (.iconst 0, 1) := by decide +kernel
theorem dX11_summed_8 : decode cX11_summed 8 = .ok (.istore 4, 2) := by decide +kernel
theorem dX11_summed_10 : decode cX11_summed 10 = .ok (.iload 4, 2) := by decide +kernel
theorem dX11_summed_12 : decode cX11_summed 12 = .ok (.aload_n 0, 1) := by decide +kernel
theorem dX11_summed_13 : decode cX11_summed 13 = .ok (.getfield 209, 3) := by decide +kernel
theorem dX11_summed_16 : decode cX11_summed 16 = .ok (.if_icmp .ge 67, 3) := by decide +kernel
theorem dX11_summed_19 : decode cX11_summed 19 = .ok (.iconst 0, 1) := by decide +kernel
theorem dX11_summed_20 : decode cX11_summed 20 = .ok (.istore 5, 2) := by decide +kernel
theorem dX11_summed_22 : decode cX11_summed 22 = .ok (.iload 5, 2) := by decide +kernel
theorem dX11_summed_24 : decode cX11_summed 24 = .ok (.aload_n 0, 1) := by decide +kernel
theorem dX11_summed_25 : decode cX11_summed 25 = .ok (.getfield 50, 3) := by decide +kernel
theorem dX11_summed_28 : decode cX11_summed 28 = .ok (.iconst 4, 1) := by decide +kernel
theorem dX11_summed_29 : decode cX11_summed 29 = .ok (.iload 4, 2) := by decide +kernel
theorem dX11_summed_31 : decode cX11_summed 31 = .ok (.imul, 1) := by decide +kernel
theorem dX11_summed_32 : decode cX11_summed 32 = .ok (.aload_n 0, 1) := by decide +kernel
theorem dX11_summed_33 : decode cX11_summed 33 = .ok (.getfield 59, 3) := by decide +kernel
theorem dX11_summed_36 : decode cX11_summed 36 = .ok (.iload_n 1, 1) := by decide +kernel
theorem dX11_summed_37 : decode cX11_summed 37 = .ok (.iaload, 1) := by decide +kernel
theorem dX11_summed_38 : decode cX11_summed 38 = .ok (.iadd, 1) := by decide +kernel
theorem dX11_summed_39 : decode cX11_summed 39 = .ok (.iaload, 1) := by decide +kernel
theorem dX11_summed_40 : decode cX11_summed 40 = .ok (.if_icmp .ge 37, 3) := by decide +kernel
theorem dX11_summed_43 : decode cX11_summed 43 = .ok (.aload_n 0, 1) := by decide +kernel
theorem dX11_summed_44 : decode cX11_summed 44 = .ok (.getfield 44, 3) := by decide +kernel
theorem dX11_summed_47 : decode cX11_summed 47 = .ok (.iload 4, 2) := by decide +kernel
theorem dX11_summed_49 : decode cX11_summed 49 = .ok (.iaload, 1) := by decide +kernel
theorem dX11_summed_50 : decode cX11_summed 50 = .ok (.iload_n 1, 1) := by decide +kernel
theorem dX11_summed_51 : decode cX11_summed 51 = .ok (.if_icmp .ne 26, 3) := by decide +kernel
theorem dX11_summed_54 : decode cX11_summed 54 = .ok (.lload_n 2, 1) := by decide +kernel
theorem dX11_summed_55 : decode cX11_summed 55 = .ok (.aload_n 0, 1) := by decide +kernel
theorem dX11_summed_56 : decode cX11_summed 56 = .ok (.getfield 68, 3) := by decide +kernel
theorem dX11_summed_59 : decode cX11_summed 59 = .ok (.sipush 450, 3) := by decide +kernel
theorem dX11_summed_62 : decode cX11_summed 62 = .ok (.iload 4, 2) := by decide +kernel
theorem dX11_summed_64 : decode cX11_summed 64 = .ok (.imul, 1) := by decide +kernel
theorem dX11_summed_65 : decode cX11_summed 65 = .ok (.iload 5, 2) := by decide +kernel
theorem dX11_summed_67 : decode cX11_summed 67 = .ok (.iadd, 1) := by decide +kernel
theorem dX11_summed_68 : decode cX11_summed 68 = .ok (.laload, 1) := by decide +kernel
theorem dX11_summed_69 : decode cX11_summed 69 = .ok (.ladd, 1) := by decide +kernel
theorem dX11_summed_70 : decode cX11_summed 70 = .ok (.lstore_n 2, 1) := by decide +kernel
theorem dX11_summed_71 : decode cX11_summed 71 = .ok (.iinc 5 1, 3) := by decide +kernel
theorem dX11_summed_74 : decode cX11_summed 74 = .ok (.goto (-52), 3) := by decide +kernel
theorem dX11_summed_77 : decode cX11_summed 77 = .ok (.iinc 4 1, 3) := by decide +kernel
theorem dX11_summed_80 : decode cX11_summed 80 = .ok (.goto (-70), 3) := by decide +kernel
theorem dX11_summed_83 : decode cX11_summed 83 = .ok (.lload_n 2, 1) := by decide +kernel
theorem dX11_summed_84 : decode cX11_summed 84 = .ok (.lreturn, 1) := by decide +kernel
theorem dX11_fixed_0 : decode cX11_fixed 0 = .ok (.aload_n 0, 1) := by decide +kernel
theorem dX11_fixed_1 : decode cX11_fixed 1 = .ok (.iconst 1, 1) := by decide +kernel
theorem dX11_fixed_2 : decode cX11_fixed 2 = .ok (.invokevirtual 405, 3) := by decide +kernel
theorem dX11_fixed_5 : decode cX11_fixed 5 = .ok (.aload_n 0, 1) := by decide +kernel
theorem dX11_fixed_6 : decode cX11_fixed 6 = .ok (.iload_n 1, 1) := by decide +kernel
theorem dX11_fixed_7 : decode cX11_fixed 7 = .ok (.invokevirtual 408, 3) := by decide +kernel
theorem dX11_fixed_10 : decode cX11_fixed 10 = .ok (.lreturn, 1) := by decide +kernel
theorem dX11_scaled_0 : decode cX11_scaled 0 = .ok (.aload_n 0, 1) := by decide +kernel
theorem dX11_scaled_1 : decode cX11_scaled 1 = .ok (.iconst 2, 1) := by decide +kernel
theorem dX11_scaled_2 : decode cX11_scaled 2 = .ok (.invokevirtual 405, 3) := by decide +kernel
theorem dX11_scaled_5 : decode cX11_scaled 5 = .ok (.aload_n 0, 1) := by decide +kernel
theorem dX11_scaled_6 : decode cX11_scaled 6 = .ok (.getfield 16, 3) := by decide +kernel
theorem dX11_scaled_9 : decode cX11_scaled 9 = .ok (.iload_n 1, 1) := by decide +kernel
theorem dX11_scaled_10 : decode cX11_scaled 10 = .ok (.laload, 1) := by decide +kernel
theorem dX11_scaled_11 : decode cX11_scaled 11 = .ok (.aload_n 0, 1) := by decide +kernel
theorem dX11_scaled_12 : decode cX11_scaled 12 = .ok (.iload_n 1, 1) := by decide +kernel
theorem dX11_scaled_13 : decode cX11_scaled 13 = .ok (.invokevirtual 412, 3) := by decide +kernel
theorem dX11_scaled_16 : decode cX11_scaled 16 = .ok (.lmul, 1) := by decide +kernel
theorem dX11_scaled_17 : decode cX11_scaled 17 = .ok (.lreturn, 1) := by decide +kernel
theorem dX11_shared_0 : decode cX11_shared 0 = .ok (.aload_n 0, 1) := by decide +kernel
theorem dX11_shared_1 : decode cX11_shared 1 = .ok (.iconst 4, 1) := by decide +kernel
theorem dX11_shared_2 : decode cX11_shared 2 = .ok (.invokevirtual 405, 3) := by decide +kernel
theorem dX11_shared_5 : decode cX11_shared 5 = .ok (.aload_n 0, 1) := by decide +kernel
theorem dX11_shared_6 : decode cX11_shared 6 = .ok (.iload_n 1, 1) := by decide +kernel
theorem dX11_shared_7 : decode cX11_shared 7 = .ok (.invokevirtual 415, 3) := by decide +kernel
theorem dX11_shared_10 : decode cX11_shared 10 = .ok (.lstore_n 2, 1) := by decide +kernel
theorem dX11_shared_11 : decode cX11_shared 11 = .ok (.lconst 0, 1) := by decide +kernel
theorem dX11_shared_12 : decode cX11_shared 12 = .ok (.lstore 4, 2) := by decide +kernel
theorem dX11_shared_14 : decode cX11_shared 14 = .ok (.iconst 0, 1) := by decide +kernel
theorem dX11_shared_15 : decode cX11_shared 15 = .ok (.istore 6, 2) := by decide +kernel
theorem dX11_shared_17 : decode cX11_shared 17 = .ok (.iconst 0, 1) := by decide +kernel
theorem dX11_shared_18 : decode cX11_shared 18 = .ok (.istore 7, 2) := by decide +kernel
theorem dX11_shared_20 : decode cX11_shared 20 = .ok (.iload 7, 2) := by decide +kernel
theorem dX11_shared_22 : decode cX11_shared 22 = .ok (.aload_n 0, 1) := by decide +kernel
theorem dX11_shared_23 : decode cX11_shared 23 = .ok (.getfield 209, 3) := by decide +kernel
theorem dX11_shared_26 : decode cX11_shared 26 = .ok (.if_icmp .ge 60, 3) := by decide +kernel
theorem dX11_shared_29 : decode cX11_shared 29 = .ok (.iload 6, 2) := by decide +kernel
theorem dX11_shared_31 : decode cX11_shared 31 = .ok (.ifCond .ne 55, 3) := by decide +kernel
theorem dX11_shared_34 : decode cX11_shared 34 = .ok (.aload_n 0, 1) := by decide +kernel
theorem dX11_shared_35 : decode cX11_shared 35 = .ok (.getfield 44, 3) := by decide +kernel
theorem dX11_shared_38 : decode cX11_shared 38 = .ok (.iload 7, 2) := by decide +kernel
theorem dX11_shared_40 : decode cX11_shared 40 = .ok (.iaload, 1) := by decide +kernel
theorem dX11_shared_41 : decode cX11_shared 41 = .ok (.iload_n 1, 1) := by decide +kernel
theorem dX11_shared_42 : decode cX11_shared 42 = .ok (.if_icmp .ne 38, 3) := by decide +kernel
theorem dX11_shared_45 : decode cX11_shared 45 = .ok (.aload_n 0, 1) := by decide +kernel
theorem dX11_shared_46 : decode cX11_shared 46 = .ok (.getfield 50, 3) := by decide +kernel
theorem dX11_shared_49 : decode cX11_shared 49 = .ok (.iconst 4, 1) := by decide +kernel
theorem dX11_shared_50 : decode cX11_shared 50 = .ok (.iload 7, 2) := by decide +kernel
theorem dX11_shared_52 : decode cX11_shared 52 = .ok (.imul, 1) := by decide +kernel
theorem dX11_shared_53 : decode cX11_shared 53 = .ok (.aload_n 0, 1) := by decide +kernel
theorem dX11_shared_54 : decode cX11_shared 54 = .ok (.getfield 59, 3) := by decide +kernel
theorem dX11_shared_57 : decode cX11_shared 57 = .ok (.iload_n 1, 1) := by decide +kernel
theorem dX11_shared_58 : decode cX11_shared 58 = .ok (.iaload, 1) := by decide +kernel
theorem dX11_shared_59 : decode cX11_shared 59 = .ok (.iadd, 1) := by decide +kernel
theorem dX11_shared_60 : decode cX11_shared 60 = .ok (.iaload, 1) := by decide +kernel
theorem dX11_shared_61 : decode cX11_shared 61 = .ok (.ifCond .le 19, 3) := by decide +kernel
theorem dX11_shared_64 : decode cX11_shared 64 = .ok (.aload_n 0, 1) := by decide +kernel
theorem dX11_shared_65 : decode cX11_shared 65 = .ok (.getfield 68, 3) := by decide +kernel
theorem dX11_shared_68 : decode cX11_shared 68 = .ok (.sipush 450, 3) := by decide +kernel
theorem dX11_shared_71 : decode cX11_shared 71 = .ok (.iload 7, 2) := by decide +kernel
theorem dX11_shared_73 : decode cX11_shared 73 = .ok (.imul, 1) := by decide +kernel
theorem dX11_shared_74 : decode cX11_shared 74 = .ok (.laload, 1) := by decide +kernel
theorem dX11_shared_75 : decode cX11_shared 75 = .ok (.lstore 4, 2) := by decide +kernel
theorem dX11_shared_77 : decode cX11_shared 77 = .ok (.iconst 1, 1) := by decide +kernel
theorem dX11_shared_78 : decode cX11_shared 78 = .ok (.istore 6, 2) := by decide +kernel
theorem dX11_shared_80 : decode cX11_shared 80 = .ok (.iinc 7 1, 3) := by decide +kernel
theorem dX11_shared_83 : decode cX11_shared 83 = .ok (.goto (-63), 3) := by decide +kernel
theorem dX11_shared_86 : decode cX11_shared 86 = .ok (.lload 4, 2) := by decide +kernel
theorem dX11_shared_88 : decode cX11_shared 88 = .ok (.lconst 0, 1) := by decide +kernel
theorem dX11_shared_89 : decode cX11_shared 89 = .ok (.lcmp, 1) := by decide +kernel
theorem dX11_shared_90 : decode cX11_shared 90 = .ok (.ifCond .ne 10, 3) := by decide +kernel
theorem dX11_shared_93 : decode cX11_shared 93 = .ok (.aload_n 0, 1) := by decide +kernel
theorem dX11_shared_94 : decode cX11_shared 94 = .ok (.iconst 4, 1) := by decide +kernel
theorem dX11_shared_95 : decode cX11_shared 95 = .ok (.putfield 418, 3) := by decide +kernel
theorem dX11_shared_98 : decode cX11_shared 98 = .ok (.lconst 0, 1) := by decide +kernel
theorem dX11_shared_99 : decode cX11_shared 99 = .ok (.lreturn, 1) := by decide +kernel
theorem dX11_shared_100 : decode cX11_shared 100 = .ok (.lload_n 2, 1) := by decide +kernel
theorem dX11_shared_101 : decode cX11_shared 101 = .ok (.lload 4, 2) := by decide +kernel
theorem dX11_shared_103 : decode cX11_shared 103 = .ok (.ldiv, 1) := by decide +kernel
theorem dX11_shared_104 : decode cX11_shared 104 = .ok (.lreturn, 1) := by decide +kernel
theorem dX11_delayed_0 : decode cX11_delayed 0 = .ok (.aload_n 0, 1) := by decide +kernel
theorem dX11_delayed_1 : decode cX11_delayed 1 = .ok (.bipush 6, 2) := by decide +kernel
theorem dX11_delayed_3 : decode cX11_delayed 3 = .ok (.invokevirtual 405, 3) := by decide +kernel
theorem dX11_delayed_6 : decode cX11_delayed 6 = .ok (.aload_n 0, 1) := by decide +kernel
theorem dX11_delayed_7 : decode cX11_delayed 7 = .ok (.getfield 29, 3) := by decide +kernel
theorem dX11_delayed_10 : decode cX11_delayed 10 = .ok (.iload_n 1, 1) := by decide +kernel
theorem dX11_delayed_11 : decode cX11_delayed 11 = .ok (.iaload, 1) := by decide +kernel
theorem dX11_delayed_12 : decode cX11_delayed 12 = .ok (.ifCond .ge 10, 3) := by decide +kernel
theorem dX11_delayed_15 : decode cX11_delayed 15 = .ok (.aload_n 0, 1) := by decide +kernel
theorem dX11_delayed_16 : decode cX11_delayed 16 = .ok (.iconst 1, 1) := by decide +kernel
theorem dX11_delayed_17 : decode cX11_delayed 17 = .ok (.putfield 418, 3) := by decide +kernel
theorem dX11_delayed_20 : decode cX11_delayed 20 = .ok (.lconst 0, 1) := by decide +kernel
theorem dX11_delayed_21 : decode cX11_delayed 21 = .ok (.lreturn, 1) := by decide +kernel
theorem dX11_delayed_22 : decode cX11_delayed 22 = .ok (.aload_n 0, 1) := by decide +kernel
theorem dX11_delayed_23 : decode cX11_delayed 23 = .ok (.iload_n 1, 1) := by decide +kernel
theorem dX11_delayed_24 : decode cX11_delayed 24 = .ok (.invokevirtual 412, 3) := by decide +kernel
theorem dX11_delayed_27 : decode cX11_delayed 27 = .ok (.lstore_n 2, 1) := by decide +kernel
theorem dX11_delayed_28 : decode cX11_delayed 28 = .ok (.aload_n 0, 1) := by decide +kernel
theorem dX11_delayed_29 : decode cX11_delayed 29 = .ok (.getfield 29, 3) := by decide +kernel
theorem dX11_delayed_32 : decode cX11_delayed 32 = .ok (.iload_n 1, 1) := by decide +kernel
theorem dX11_delayed_33 : decode cX11_delayed 33 = .ok (.iaload, 1) := by decide +kernel
theorem dX11_delayed_34 : decode cX11_delayed 34 = .ok (.ifCond .ne 5, 3) := by decide +kernel
theorem dX11_delayed_37 : decode cX11_delayed 37 = .ok (.lload_n 2, 1) := by decide +kernel
theorem dX11_delayed_38 : decode cX11_delayed 38 = .ok (.lreturn, 1) := by decide +kernel
theorem dX11_delayed_39 : decode cX11_delayed 39 = .ok (.aload_n 0, 1) := by decide +kernel
theorem dX11_delayed_40 : decode cX11_delayed 40 = .ok (.getfield 32, 3) := by decide +kernel
theorem dX11_delayed_43 : decode cX11_delayed 43 = .ok (.bipush 12, 2) := by decide +kernel
theorem dX11_delayed_45 : decode cX11_delayed 45 = .ok (.iload_n 1, 1) := by decide +kernel
theorem dX11_delayed_46 : decode cX11_delayed 46 = .ok (.imul, 1) := by decide +kernel
theorem dX11_delayed_47 : decode cX11_delayed 47 = .ok (.laload, 1) := by decide +kernel
theorem dX11_delayed_48 : decode cX11_delayed 48 = .ok (.lstore 4, 2) := by decide +kernel
theorem dX11_delayed_50 : decode cX11_delayed 50 = .ok (.iconst 1, 1) := by decide +kernel
theorem dX11_delayed_51 : decode cX11_delayed 51 = .ok (.istore 6, 2) := by decide +kernel
theorem dX11_delayed_53 : decode cX11_delayed 53 = .ok (.iload 6, 2) := by decide +kernel
theorem dX11_delayed_55 : decode cX11_delayed 55 = .ok (.aload_n 0, 1) := by decide +kernel
theorem dX11_delayed_56 : decode cX11_delayed 56 = .ok (.getfield 29, 3) := by decide +kernel
theorem dX11_delayed_59 : decode cX11_delayed 59 = .ok (.iload_n 1, 1) := by decide +kernel
theorem dX11_delayed_60 : decode cX11_delayed 60 = .ok (.iaload, 1) := by decide +kernel
theorem dX11_delayed_61 : decode cX11_delayed 61 = .ok (.if_icmp .ge 35, 3) := by decide +kernel
theorem dX11_delayed_64 : decode cX11_delayed 64 = .ok (.aload_n 0, 1) := by decide +kernel
theorem dX11_delayed_65 : decode cX11_delayed 65 = .ok (.getfield 32, 3) := by decide +kernel
theorem dX11_delayed_68 : decode cX11_delayed 68 = .ok (.bipush 12, 2) := by decide +kernel
theorem dX11_delayed_70 : decode cX11_delayed 70 = .ok (.iload_n 1, 1) := by decide +kernel
theorem dX11_delayed_71 : decode cX11_delayed 71 = .ok (.imul, 1) := by decide +kernel
theorem dX11_delayed_72 : decode cX11_delayed 72 = .ok (.iload 6, 2) := by decide +kernel
theorem dX11_delayed_74 : decode cX11_delayed 74 = .ok (.iadd, 1) := by decide +kernel
theorem dX11_delayed_75 : decode cX11_delayed 75 = .ok (.iconst 1, 1) := by decide +kernel
theorem dX11_delayed_76 : decode cX11_delayed 76 = .ok (.isub, 1) := by decide +kernel
theorem dX11_delayed_77 : decode cX11_delayed 77 = .ok (.aload_n 0, 1) := by decide +kernel
theorem dX11_delayed_78 : decode cX11_delayed 78 = .ok (.getfield 32, 3) := by decide +kernel
theorem dX11_delayed_81 : decode cX11_delayed 81 = .ok (.bipush 12, 2) := by decide +kernel
theorem dX11_delayed_83 : decode cX11_delayed 83 = .ok (.iload_n 1, 1) := by decide +kernel
theorem dX11_delayed_84 : decode cX11_delayed 84 = .ok (.imul, 1) := by decide +kernel
theorem dX11_delayed_85 : decode cX11_delayed 85 = .ok (.iload 6, 2) := by decide +kernel
theorem dX11_delayed_87 : decode cX11_delayed 87 = .ok (.iadd, 1) := by decide +kernel
theorem dX11_delayed_88 : decode cX11_delayed 88 = .ok (.laload, 1) := by decide +kernel
theorem dX11_delayed_89 : decode cX11_delayed 89 = .ok (.lastore, 1) := by decide +kernel
theorem dX11_delayed_90 : decode cX11_delayed 90 = .ok (.iinc 6 1, 3) := by decide +kernel
theorem dX11_delayed_93 : decode cX11_delayed 93 = .ok (.goto (-40), 3) := by decide +kernel
theorem dX11_delayed_96 : decode cX11_delayed 96 = .ok (.aload_n 0, 1) := by decide +kernel
theorem dX11_delayed_97 : decode cX11_delayed 97 = .ok (.getfield 32, 3) := by decide +kernel
theorem dX11_delayed_100 : decode cX11_delayed 100 = .ok (.bipush 12, 2) := by decide +kernel
theorem dX11_delayed_102 : decode cX11_delayed 102 = .ok (.iload_n 1, 1) := by decide +kernel
theorem dX11_delayed_103 : decode cX11_delayed 103 = .ok (.imul, 1) := by decide +kernel
theorem dX11_delayed_104 : decode cX11_delayed 104 = .ok (.aload_n 0, 1) := by decide +kernel
theorem dX11_delayed_105 : decode cX11_delayed 105 = .ok (.getfield 29, 3) := by decide +kernel
theorem dX11_delayed_108 : decode cX11_delayed 108 = .ok (.iload_n 1, 1) := by decide +kernel
theorem dX11_delayed_109 : decode cX11_delayed 109 = .ok (.iaload, 1) := by decide +kernel
theorem dX11_delayed_110 : decode cX11_delayed 110 = .ok (.iadd, 1) := by decide +kernel
theorem dX11_delayed_111 : decode cX11_delayed 111 = .ok (.iconst 1, 1) := by decide +kernel
theorem dX11_delayed_112 : decode cX11_delayed 112 = .ok (.isub, 1) := by decide +kernel
theorem dX11_delayed_113 : decode cX11_delayed 113 = .ok (.lload_n 2, 1) := by decide +kernel
theorem dX11_delayed_114 : decode cX11_delayed 114 = .ok (.lastore, 1) := by decide +kernel
theorem dX11_delayed_115 : decode cX11_delayed 115 = .ok (.lload 4, 2) := by decide +kernel
theorem dX11_delayed_117 : decode cX11_delayed 117 = .ok (.lreturn, 1) := by decide +kernel
theorem dX11_works_0 : decode cX11_works 0 = .ok (.aload_n 0, 1) := by decide +kernel
theorem dX11_works_1 : decode cX11_works 1 = .ok (.getfield 13, 3) := by decide +kernel
theorem dX11_works_4 : decode cX11_works 4 = .ok (.iload_n 1, 1) := by decide +kernel
theorem dX11_works_5 : decode cX11_works 5 = .ok (.iaload, 1) := by decide +kernel
theorem dX11_works_6 : decode cX11_works 6 = .ok (.tableswitch 97 0 4 #[34, 40, 46, 72, 78], 34) := by decide +kernel
theorem dX11_works_40 : decode cX11_works 40 = .ok (.aload_n 0, 1) := by decide +kernel
theorem dX11_works_41 : decode cX11_works 41 = .ok (.iload_n 1, 1) := by decide +kernel
theorem dX11_works_42 : decode cX11_works 42 = .ok (.invokevirtual 412, 3) := by decide +kernel
theorem dX11_works_45 : decode cX11_works 45 = .ok (.lreturn, 1) := by decide +kernel
theorem dX11_works_46 : decode cX11_works 46 = .ok (.aload_n 0, 1) := by decide +kernel
theorem dX11_works_47 : decode cX11_works 47 = .ok (.iload_n 1, 1) := by decide +kernel
theorem dX11_works_48 : decode cX11_works 48 = .ok (.invokevirtual 415, 3) := by decide +kernel
theorem dX11_works_51 : decode cX11_works 51 = .ok (.lreturn, 1) := by decide +kernel
theorem dX11_works_52 : decode cX11_works 52 = .ok (.aload_n 0, 1) := by decide +kernel
theorem dX11_works_53 : decode cX11_works 53 = .ok (.iconst 3, 1) := by decide +kernel
theorem dX11_works_54 : decode cX11_works 54 = .ok (.invokevirtual 405, 3) := by decide +kernel
theorem dX11_works_57 : decode cX11_works 57 = .ok (.aload_n 0, 1) := by decide +kernel
theorem dX11_works_58 : decode cX11_works 58 = .ok (.getfield 62, 3) := by decide +kernel
theorem dX11_works_61 : decode cX11_works 61 = .ok (.iload_n 1, 1) := by decide +kernel
theorem dX11_works_62 : decode cX11_works 62 = .ok (.dup2, 1) := by decide +kernel
theorem dX11_works_63 : decode cX11_works 63 = .ok (.laload, 1) := by decide +kernel
theorem dX11_works_64 : decode cX11_works 64 = .ok (.aload_n 0, 1) := by decide +kernel
theorem dX11_works_65 : decode cX11_works 65 = .ok (.iload_n 1, 1) := by decide +kernel
theorem dX11_works_66 : decode cX11_works 66 = .ok (.invokevirtual 415, 3) := by decide +kernel
theorem dX11_works_69 : decode cX11_works 69 = .ok (.ladd, 1) := by decide +kernel
theorem dX11_works_70 : decode cX11_works 70 = .ok (.lastore, 1) := by decide +kernel
theorem dX11_works_71 : decode cX11_works 71 = .ok (.aload_n 0, 1) := by decide +kernel
theorem dX11_works_72 : decode cX11_works 72 = .ok (.getfield 62, 3) := by decide +kernel
theorem dX11_works_75 : decode cX11_works 75 = .ok (.iload_n 1, 1) := by decide +kernel
theorem dX11_works_76 : decode cX11_works 76 = .ok (.laload, 1) := by decide +kernel
theorem dX11_works_77 : decode cX11_works 77 = .ok (.lreturn, 1) := by decide +kernel
theorem dX11_works_78 : decode cX11_works 78 = .ok (.aload_n 0, 1) := by decide +kernel
theorem dX11_works_79 : decode cX11_works 79 = .ok (.iload_n 1, 1) := by decide +kernel
theorem dX11_works_80 : decode cX11_works 80 = .ok (.invokevirtual 421, 3) := by decide +kernel
theorem dX11_works_83 : decode cX11_works 83 = .ok (.lreturn, 1) := by decide +kernel
theorem dX11_works_84 : decode cX11_works 84 = .ok (.aload_n 0, 1) := by decide +kernel
theorem dX11_works_85 : decode cX11_works 85 = .ok (.iconst 5, 1) := by decide +kernel
theorem dX11_works_86 : decode cX11_works 86 = .ok (.invokevirtual 405, 3) := by decide +kernel
theorem dX11_works_89 : decode cX11_works 89 = .ok (.aload_n 0, 1) := by decide +kernel
theorem dX11_works_90 : decode cX11_works 90 = .ok (.iload_n 1, 1) := by decide +kernel
theorem dX11_works_91 : decode cX11_works 91 = .ok (.invokevirtual 412, 3) := by decide +kernel
theorem dX11_works_94 : decode cX11_works 94 = .ok (.aload_n 0, 1) := by decide +kernel
theorem dX11_works_95 : decode cX11_works 95 = .ok (.getfield 59, 3) := by decide +kernel
theorem dX11_works_98 : decode cX11_works 98 = .ok (.iload_n 1, 1) := by decide +kernel
theorem dX11_works_99 : decode cX11_works 99 = .ok (.iaload, 1) := by decide +kernel
theorem dX11_works_100 : decode cX11_works 100 = .ok (.i2l, 1) := by decide +kernel
theorem dX11_works_101 : decode cX11_works 101 = .ok (.ladd, 1) := by decide +kernel
theorem dX11_works_102 : decode cX11_works 102 = .ok (.lreturn, 1) := by decide +kernel
theorem dX11_works_103 : decode cX11_works 103 = .ok (.aload_n 0, 1) := by decide +kernel
theorem dX11_works_104 : decode cX11_works 104 = .ok (.iload_n 1, 1) := by decide +kernel
theorem dX11_works_105 : decode cX11_works 105 = .ok (.invokevirtual 424, 3) := by decide +kernel
theorem dX11_works_108 : decode cX11_works 108 = .ok (.lreturn, 1) := by decide +kernel
theorem dX11_moves_0 : decode cX11_moves 0 = .ok (.iconst 0, 1) := by decide +kernel
theorem dX11_moves_1 : decode cX11_moves 1 = .ok (.istore 4, 2) := by decide +kernel
theorem dX11_moves_3 : decode cX11_moves 3 = .ok (.iload 4, 2) := by decide +kernel
theorem dX11_moves_5 : decode cX11_moves 5 = .ok (.aload_n 0, 1) := by decide +kernel
theorem dX11_moves_6 : decode cX11_moves 6 = .ok (.getfield 209, 3) := by decide +kernel
theorem dX11_moves_9 : decode cX11_moves 9 = .ok (.if_icmp .ge 103, 3) := by decide +kernel
theorem dX11_moves_12 : decode cX11_moves 12 = .ok (.aload_n 0, 1) := by decide +kernel
theorem dX11_moves_13 : decode cX11_moves 13 = .ok (.getfield 44, 3) := by decide +kernel
theorem dX11_moves_16 : decode cX11_moves 16 = .ok (.iload 4, 2) := by decide +kernel
theorem dX11_moves_18 : decode cX11_moves 18 = .ok (.iaload, 1) := by decide +kernel
theorem dX11_moves_19 : decode cX11_moves 19 = .ok (.iload_n 1, 1) := by decide +kernel
theorem dX11_moves_20 : decode cX11_moves 20 = .ok (.if_icmp .ne 86, 3) := by decide +kernel
theorem dX11_moves_23 : decode cX11_moves 23 = .ok (.aload_n 0, 1) := by decide +kernel
theorem dX11_moves_24 : decode cX11_moves 24 = .ok (.getfield 50, 3) := by decide +kernel
theorem dX11_moves_27 : decode cX11_moves 27 = .ok (.iconst 4, 1) := by decide +kernel
theorem dX11_moves_28 : decode cX11_moves 28 = .ok (.iload 4, 2) := by decide +kernel
theorem dX11_moves_30 : decode cX11_moves 30 = .ok (.imul, 1) := by decide +kernel
theorem dX11_moves_31 : decode cX11_moves 31 = .ok (.aload_n 0, 1) := by decide +kernel
theorem dX11_moves_32 : decode cX11_moves 32 = .ok (.getfield 59, 3) := by decide +kernel
theorem dX11_moves_35 : decode cX11_moves 35 = .ok (.iload_n 1, 1) := by decide +kernel
theorem dX11_moves_36 : decode cX11_moves 36 = .ok (.iaload, 1) := by decide +kernel
theorem dX11_moves_37 : decode cX11_moves 37 = .ok (.iadd, 1) := by decide +kernel
theorem dX11_moves_38 : decode cX11_moves 38 = .ok (.iaload, 1) := by decide +kernel
theorem dX11_moves_39 : decode cX11_moves 39 = .ok (.istore 5, 2) := by decide +kernel
theorem dX11_moves_41 : decode cX11_moves 41 = .ok (.iload 5, 2) := by decide +kernel
theorem dX11_moves_43 : decode cX11_moves 43 = .ok (.istore 6, 2) := by decide +kernel
theorem dX11_moves_45 : decode cX11_moves 45 = .ok (.iload 6, 2) := by decide +kernel
theorem dX11_moves_47 : decode cX11_moves 47 = .ok (.aload_n 0, 1) := by decide +kernel
theorem dX11_moves_48 : decode cX11_moves 48 = .ok (.getfield 65, 3) := by decide +kernel
theorem dX11_moves_51 : decode cX11_moves 51 = .ok (.iload 4, 2) := by decide +kernel
theorem dX11_moves_53 : decode cX11_moves 53 = .ok (.iaload, 1) := by decide +kernel
theorem dX11_moves_54 : decode cX11_moves 54 = .ok (.if_icmp .ge 40, 3) := by decide +kernel
theorem dX11_moves_57 : decode cX11_moves 57 = .ok (.aload_n 0, 1) := by decide +kernel
theorem dX11_moves_58 : decode cX11_moves 58 = .ok (.getfield 68, 3) := by decide +kernel
theorem dX11_moves_61 : decode cX11_moves 61 = .ok (.sipush 450, 3) := by decide +kernel
theorem dX11_moves_64 : decode cX11_moves 64 = .ok (.iload 4, 2) := by decide +kernel
theorem dX11_moves_66 : decode cX11_moves 66 = .ok (.imul, 1) := by decide +kernel
theorem dX11_moves_67 : decode cX11_moves 67 = .ok (.iload 6, 2) := by decide +kernel
theorem dX11_moves_69 : decode cX11_moves 69 = .ok (.iadd, 1) := by decide +kernel
theorem dX11_moves_70 : decode cX11_moves 70 = .ok (.iload 5, 2) := by decide +kernel
theorem dX11_moves_72 : decode cX11_moves 72 = .ok (.isub, 1) := by decide +kernel
theorem dX11_moves_73 : decode cX11_moves 73 = .ok (.aload_n 0, 1) := by decide +kernel
theorem dX11_moves_74 : decode cX11_moves 74 = .ok (.getfield 68, 3) := by decide +kernel
theorem dX11_moves_77 : decode cX11_moves 77 = .ok (.sipush 450, 3) := by decide +kernel
theorem dX11_moves_80 : decode cX11_moves 80 = .ok (.iload 4, 2) := by decide +kernel
theorem dX11_moves_82 : decode cX11_moves 82 = .ok (.imul, 1) := by decide +kernel
theorem dX11_moves_83 : decode cX11_moves 83 = .ok (.iload 6, 2) := by decide +kernel
theorem dX11_moves_85 : decode cX11_moves 85 = .ok (.iadd, 1) := by decide +kernel
theorem dX11_moves_86 : decode cX11_moves 86 = .ok (.laload, 1) := by decide +kernel
theorem dX11_moves_87 : decode cX11_moves 87 = .ok (.lastore, 1) := by decide +kernel
theorem dX11_moves_88 : decode cX11_moves 88 = .ok (.iinc 6 1, 3) := by decide +kernel
theorem dX11_moves_91 : decode cX11_moves 91 = .ok (.goto (-46), 3) := by decide +kernel
theorem dX11_moves_94 : decode cX11_moves 94 = .ok (.aload_n 0, 1) := by decide +kernel
theorem dX11_moves_95 : decode cX11_moves 95 = .ok (.getfield 65, 3) := by decide +kernel
theorem dX11_moves_98 : decode cX11_moves 98 = .ok (.iload 4, 2) := by decide +kernel
theorem dX11_moves_100 : decode cX11_moves 100 = .ok (.dup2, 1) := by decide +kernel
theorem dX11_moves_101 : decode cX11_moves 101 = .ok (.iaload, 1) := by decide +kernel
theorem dX11_moves_102 : decode cX11_moves 102 = .ok (.iload 5, 2) := by decide +kernel
theorem dX11_moves_104 : decode cX11_moves 104 = .ok (.isub, 1) := by decide +kernel
theorem dX11_moves_105 : decode cX11_moves 105 = .ok (.iastore, 1) := by decide +kernel
theorem dX11_moves_106 : decode cX11_moves 106 = .ok (.iinc 4 1, 3) := by decide +kernel
theorem dX11_moves_109 : decode cX11_moves 109 = .ok (.goto (-106), 3) := by decide +kernel
theorem dX11_moves_112 : decode cX11_moves 112 = .ok (.iconst 0, 1) := by decide +kernel
theorem dX11_moves_113 : decode cX11_moves 113 = .ok (.istore 4, 2) := by decide +kernel
theorem dX11_moves_115 : decode cX11_moves 115 = .ok (.iload 4, 2) := by decide +kernel
theorem dX11_moves_117 : decode cX11_moves 117 = .ok (.aload_n 0, 1) := by decide +kernel
theorem dX11_moves_118 : decode cX11_moves 118 = .ok (.getfield 209, 3) := by decide +kernel
theorem dX11_moves_121 : decode cX11_moves 121 = .ok (.if_icmp .ge 133, 3) := by decide +kernel
theorem dX11_moves_124 : decode cX11_moves 124 = .ok (.iconst 0, 1) := by decide +kernel
theorem dX11_moves_125 : decode cX11_moves 125 = .ok (.istore 5, 2) := by decide +kernel
theorem dX11_moves_127 : decode cX11_moves 127 = .ok (.iload 5, 2) := by decide +kernel
theorem dX11_moves_129 : decode cX11_moves 129 = .ok (.aload_n 0, 1) := by decide +kernel
theorem dX11_moves_130 : decode cX11_moves 130 = .ok (.getfield 47, 3) := by decide +kernel
theorem dX11_moves_133 : decode cX11_moves 133 = .ok (.iconst 4, 1) := by decide +kernel
theorem dX11_moves_134 : decode cX11_moves 134 = .ok (.iload 4, 2) := by decide +kernel
theorem dX11_moves_136 : decode cX11_moves 136 = .ok (.imul, 1) := by decide +kernel
theorem dX11_moves_137 : decode cX11_moves 137 = .ok (.aload_n 0, 1) := by decide +kernel
theorem dX11_moves_138 : decode cX11_moves 138 = .ok (.getfield 59, 3) := by decide +kernel
theorem dX11_moves_141 : decode cX11_moves 141 = .ok (.iload_n 1, 1) := by decide +kernel
theorem dX11_moves_142 : decode cX11_moves 142 = .ok (.iaload, 1) := by decide +kernel
theorem dX11_moves_143 : decode cX11_moves 143 = .ok (.iadd, 1) := by decide +kernel
theorem dX11_moves_144 : decode cX11_moves 144 = .ok (.iaload, 1) := by decide +kernel
theorem dX11_moves_145 : decode cX11_moves 145 = .ok (.if_icmp .ge 103, 3) := by decide +kernel
theorem dX11_moves_148 : decode cX11_moves 148 = .ok (.aload_n 0, 1) := by decide +kernel
theorem dX11_moves_149 : decode cX11_moves 149 = .ok (.getfield 41, 3) := by decide +kernel
theorem dX11_moves_152 : decode cX11_moves 152 = .ok (.iload 4, 2) := by decide +kernel
theorem dX11_moves_154 : decode cX11_moves 154 = .ok (.iaload, 1) := by decide +kernel
theorem dX11_moves_155 : decode cX11_moves 155 = .ok (.iload_n 1, 1) := by decide +kernel
theorem dX11_moves_156 : decode cX11_moves 156 = .ok (.if_icmp .ne 92, 3) := by decide +kernel
theorem dX11_moves_159 : decode cX11_moves 159 = .ok (.aload_n 0, 1) := by decide +kernel
theorem dX11_moves_160 : decode cX11_moves 160 = .ok (.getfield 68, 3) := by decide +kernel
theorem dX11_moves_163 : decode cX11_moves 163 = .ok (.sipush 450, 3) := by decide +kernel
theorem dX11_moves_166 : decode cX11_moves 166 = .ok (.iload 4, 2) := by decide +kernel
theorem dX11_moves_168 : decode cX11_moves 168 = .ok (.imul, 1) := by decide +kernel
theorem dX11_moves_169 : decode cX11_moves 169 = .ok (.aload_n 0, 1) := by decide +kernel
theorem dX11_moves_170 : decode cX11_moves 170 = .ok (.getfield 65, 3) := by decide +kernel
theorem dX11_moves_173 : decode cX11_moves 173 = .ok (.iload 4, 2) := by decide +kernel
theorem dX11_moves_175 : decode cX11_moves 175 = .ok (.iaload, 1) := by decide +kernel
theorem dX11_moves_176 : decode cX11_moves 176 = .ok (.iadd, 1) := by decide +kernel
theorem dX11_moves_177 : decode cX11_moves 177 = .ok (.lload_n 2, 1) := by decide +kernel
theorem dX11_moves_178 : decode cX11_moves 178 = .ok (.iload 5, 2) := by decide +kernel
theorem dX11_moves_180 : decode cX11_moves 180 = .ok (.i2l, 1) := by decide +kernel
theorem dX11_moves_181 : decode cX11_moves 181 = .ok (.ladd, 1) := by decide +kernel
theorem dX11_moves_182 : decode cX11_moves 182 = .ok (.lastore, 1) := by decide +kernel
theorem dX11_moves_183 : decode cX11_moves 183 = .ok (.aload_n 0, 1) := by decide +kernel
theorem dX11_moves_184 : decode cX11_moves 184 = .ok (.getfield 65, 3) := by decide +kernel
theorem dX11_moves_187 : decode cX11_moves 187 = .ok (.iload 4, 2) := by decide +kernel
theorem dX11_moves_189 : decode cX11_moves 189 = .ok (.dup2, 1) := by decide +kernel
theorem dX11_moves_190 : decode cX11_moves 190 = .ok (.iaload, 1) := by decide +kernel
theorem dX11_moves_191 : decode cX11_moves 191 = .ok (.iconst 1, 1) := by decide +kernel
theorem dX11_moves_192 : decode cX11_moves 192 = .ok (.iadd, 1) := by decide +kernel
theorem dX11_moves_193 : decode cX11_moves 193 = .ok (.iastore, 1) := by decide +kernel
theorem dX11_moves_194 : decode cX11_moves 194 = .ok (.aload_n 0, 1) := by decide +kernel
theorem dX11_moves_195 : decode cX11_moves 195 = .ok (.getfield 71, 3) := by decide +kernel
theorem dX11_moves_198 : decode cX11_moves 198 = .ok (.iload 4, 2) := by decide +kernel
theorem dX11_moves_200 : decode cX11_moves 200 = .ok (.iaload, 1) := by decide +kernel
theorem dX11_moves_201 : decode cX11_moves 201 = .ok (.sipush 200, 3) := by decide +kernel
theorem dX11_moves_204 : decode cX11_moves 204 = .ok (.if_icmp .ge 27, 3) := by decide +kernel
theorem dX11_moves_207 : decode cX11_moves 207 = .ok (.aload_n 0, 1) := by decide +kernel
theorem dX11_moves_208 : decode cX11_moves 208 = .ok (.getfield 74, 3) := by decide +kernel
theorem dX11_moves_211 : decode cX11_moves 211 = .ok (.sipush 200, 3) := by decide +kernel
theorem dX11_moves_214 : decode cX11_moves 214 = .ok (.iload 4, 2) := by decide +kernel
theorem dX11_moves_216 : decode cX11_moves 216 = .ok (.imul, 1) := by decide +kernel
theorem dX11_moves_217 : decode cX11_moves 217 = .ok (.aload_n 0, 1) := by decide +kernel
theorem dX11_moves_218 : decode cX11_moves 218 = .ok (.getfield 71, 3) := by decide +kernel
theorem dX11_moves_221 : decode cX11_moves 221 = .ok (.iload 4, 2) := by decide +kernel
theorem dX11_moves_223 : decode cX11_moves 223 = .ok (.iaload, 1) := by decide +kernel
theorem dX11_moves_224 : decode cX11_moves 224 = .ok (.iadd, 1) := by decide +kernel
theorem dX11_moves_225 : decode cX11_moves 225 = .ok (.lload_n 2, 1) := by decide +kernel
theorem dX11_moves_226 : decode cX11_moves 226 = .ok (.iload 5, 2) := by decide +kernel
theorem dX11_moves_228 : decode cX11_moves 228 = .ok (.i2l, 1) := by decide +kernel
theorem dX11_moves_229 : decode cX11_moves 229 = .ok (.ladd, 1) := by decide +kernel
theorem dX11_moves_230 : decode cX11_moves 230 = .ok (.lastore, 1) := by decide +kernel
theorem dX11_moves_231 : decode cX11_moves 231 = .ok (.aload_n 0, 1) := by decide +kernel
theorem dX11_moves_232 : decode cX11_moves 232 = .ok (.getfield 71, 3) := by decide +kernel
theorem dX11_moves_235 : decode cX11_moves 235 = .ok (.iload 4, 2) := by decide +kernel
theorem dX11_moves_237 : decode cX11_moves 237 = .ok (.dup2, 1) := by decide +kernel
theorem dX11_moves_238 : decode cX11_moves 238 = .ok (.iaload, 1) := by decide +kernel
theorem dX11_moves_239 : decode cX11_moves 239 = .ok (.iconst 1, 1) := by decide +kernel
theorem dX11_moves_240 : decode cX11_moves 240 = .ok (.iadd, 1) := by decide +kernel
theorem dX11_moves_241 : decode cX11_moves 241 = .ok (.iastore, 1) := by decide +kernel
theorem dX11_moves_242 : decode cX11_moves 242 = .ok (.iinc 5 1, 3) := by decide +kernel
theorem dX11_moves_245 : decode cX11_moves 245 = .ok (.goto (-118), 3) := by decide +kernel
theorem dX11_moves_248 : decode cX11_moves 248 = .ok (.iinc 4 1, 3) := by decide +kernel
theorem dX11_moves_251 : decode cX11_moves 251 = .ok (.goto (-136), 3) := by decide +kernel
theorem dX11_moves_254 : decode cX11_moves 254 = .ok (.aload_n 0, 1) := by decide +kernel
theorem dX11_moves_255 : decode cX11_moves 255 = .ok (.getfield 59, 3) := by decide +kernel
theorem dX11_moves_258 : decode cX11_moves 258 = .ok (.iload_n 1, 1) := by decide +kernel
theorem dX11_moves_259 : decode cX11_moves 259 = .ok (.aload_n 0, 1) := by decide +kernel
theorem dX11_moves_260 : decode cX11_moves 260 = .ok (.getfield 59, 3) := by decide +kernel
theorem dX11_moves_263 : decode cX11_moves 263 = .ok (.iload_n 1, 1) := by decide +kernel
theorem dX11_moves_264 : decode cX11_moves 264 = .ok (.iaload, 1) := by decide +kernel
theorem dX11_moves_265 : decode cX11_moves 265 = .ok (.iconst 1, 1) := by decide +kernel
theorem dX11_moves_266 : decode cX11_moves 266 = .ok (.iadd, 1) := by decide +kernel
theorem dX11_moves_267 : decode cX11_moves 267 = .ok (.aload_n 0, 1) := by decide +kernel
theorem dX11_moves_268 : decode cX11_moves 268 = .ok (.getfield 20, 3) := by decide +kernel
theorem dX11_moves_271 : decode cX11_moves 271 = .ok (.iload_n 1, 1) := by decide +kernel
theorem dX11_moves_272 : decode cX11_moves 272 = .ok (.iaload, 1) := by decide +kernel
theorem dX11_moves_273 : decode cX11_moves 273 = .ok (.irem, 1) := by decide +kernel
theorem dX11_moves_274 : decode cX11_moves 274 = .ok (.iastore, 1) := by decide +kernel
theorem dX11_moves_275 : decode cX11_moves 275 = .ok (.aload_n 0, 1) := by decide +kernel
theorem dX11_moves_276 : decode cX11_moves 276 = .ok (.dup, 1) := by decide +kernel
theorem dX11_moves_277 : decode cX11_moves 277 = .ok (.getfield 212, 3) := by decide +kernel
theorem dX11_moves_280 : decode cX11_moves 280 = .ok (.iconst 1, 1) := by decide +kernel
theorem dX11_moves_281 : decode cX11_moves 281 = .ok (.iadd, 1) := by decide +kernel
theorem dX11_moves_282 : decode cX11_moves 282 = .ok (.putfield 212, 3) := by decide +kernel
theorem dX11_moves_285 : decode cX11_moves 285 = .ok (.return_, 1) := by decide +kernel
theorem dX11_fires_0 : decode cX11_fires 0 = .ok (.aload_n 0, 1) := by decide +kernel
theorem dX11_fires_1 : decode cX11_fires 1 = .ok (.iload_n 1, 1) := by decide +kernel
theorem dX11_fires_2 : decode cX11_fires 2 = .ok (.invokevirtual 427, 3) := by decide +kernel
theorem dX11_fires_5 : decode cX11_fires 5 = .ok (.ifCond .ne 6, 3) := by decide +kernel
theorem dX11_fires_8 : decode cX11_fires 8 = .ok (.bipush (-4), 2) := by decide +kernel
theorem dX11_fires_10 : decode cX11_fires 10 = .ok (.ireturn, 1) := by decide +kernel
theorem dX11_fires_11 : decode cX11_fires 11 = .ok (.aload_n 0, 1) := by decide +kernel
theorem dX11_fires_12 : decode cX11_fires 12 = .ok (.iconst 0, 1) := by decide +kernel
theorem dX11_fires_13 : decode cX11_fires 13 = .ok (.putfield 402, 3) := by decide +kernel
theorem dX11_fires_16 : decode cX11_fires 16 = .ok (.aload_n 0, 1) := by decide +kernel
theorem dX11_fires_17 : decode cX11_fires 17 = .ok (.iconst 0, 1) := by decide +kernel
theorem dX11_fires_18 : decode cX11_fires 18 = .ok (.putfield 418, 3) := by decide +kernel
theorem dX11_fires_21 : decode cX11_fires 21 = .ok (.aload_n 0, 1) := by decide +kernel
theorem dX11_fires_22 : decode cX11_fires 22 = .ok (.iload_n 1, 1) := by decide +kernel
theorem dX11_fires_23 : decode cX11_fires 23 = .ok (.invokevirtual 430, 3) := by decide +kernel
theorem dX11_fires_26 : decode cX11_fires 26 = .ok (.lstore_n 2, 1) := by decide +kernel
theorem dX11_fires_27 : decode cX11_fires 27 = .ok (.aload_n 0, 1) := by decide +kernel
theorem dX11_fires_28 : decode cX11_fires 28 = .ok (.getfield 418, 3) := by decide +kernel
theorem dX11_fires_31 : decode cX11_fires 31 = .ok (.ifCond .le 12, 3) := by decide +kernel
theorem dX11_fires_34 : decode cX11_fires 34 = .ok (.aload_n 0, 1) := by decide +kernel
theorem dX11_fires_35 : decode cX11_fires 35 = .ok (.aload_n 0, 1) := by decide +kernel
theorem dX11_fires_36 : decode cX11_fires 36 = .ok (.getfield 418, 3) := by decide +kernel
theorem dX11_fires_39 : decode cX11_fires 39 = .ok (.invokevirtual 221, 3) := by decide +kernel
theorem dX11_fires_42 : decode cX11_fires 42 = .ok (.ireturn, 1) := by decide +kernel
theorem dX11_fires_43 : decode cX11_fires 43 = .ok (.aload_n 0, 1) := by decide +kernel
theorem dX11_fires_44 : decode cX11_fires 44 = .ok (.lload_n 2, 1) := by decide +kernel
theorem dX11_fires_45 : decode cX11_fires 45 = .ok (.putfield 433, 3) := by decide +kernel
theorem dX11_fires_48 : decode cX11_fires 48 = .ok (.aload_n 0, 1) := by decide +kernel
theorem dX11_fires_49 : decode cX11_fires 49 = .ok (.iload_n 1, 1) := by decide +kernel
theorem dX11_fires_50 : decode cX11_fires 50 = .ok (.lload_n 2, 1) := by decide +kernel
theorem dX11_fires_51 : decode cX11_fires 51 = .ok (.invokevirtual 436, 3) := by decide +kernel
theorem dX11_fires_54 : decode cX11_fires 54 = .ok (.iconst 1, 1) := by decide +kernel
theorem dX11_fires_55 : decode cX11_fires 55 = .ok (.ireturn, 1) := by decide +kernel
theorem dX11_fire_0 : decode cX11_fire 0 = .ok (.aload_n 0, 1) := by decide +kernel
theorem dX11_fire_1 : decode cX11_fire 1 = .ok (.iload_n 1, 1) := by decide +kernel
theorem dX11_fire_2 : decode cX11_fire 2 = .ok (.invokevirtual 228, 3) := by decide +kernel
theorem dX11_fire_5 : decode cX11_fire 5 = .ok (.ifCond .ne 5, 3) := by decide +kernel
theorem dX11_fire_8 : decode cX11_fire 8 = .ok (.iconst (-1), 1) := by decide +kernel
theorem dX11_fire_9 : decode cX11_fire 9 = .ok (.ireturn, 1) := by decide +kernel
theorem dX11_fire_10 : decode cX11_fire 10 = .ok (.aload_n 0, 1) := by decide +kernel
theorem dX11_fire_11 : decode cX11_fire 11 = .ok (.getfield 212, 3) := by decide +kernel
theorem dX11_fire_14 : decode cX11_fire 14 = .ok (.sipush 5000, 3) := by decide +kernel
theorem dX11_fire_17 : decode cX11_fire 17 = .ok (.if_icmp .ne 8, 3) := by decide +kernel
theorem dX11_fire_20 : decode cX11_fire 20 = .ok (.bipush (-4), 2) := by decide +kernel
theorem dX11_fire_22 : decode cX11_fire 22 = .ok (.goto 20, 3) := by decide +kernel
theorem dX11_fire_25 : decode cX11_fire 25 = .ok (.aload_n 0, 1) := by decide +kernel
theorem dX11_fire_26 : decode cX11_fire 26 = .ok (.iload_n 1, 1) := by decide +kernel
theorem dX11_fire_27 : decode cX11_fire 27 = .ok (.invokevirtual 399, 3) := by decide +kernel
theorem dX11_fire_30 : decode cX11_fire 30 = .ok (.ifCond .ne 7, 3) := by decide +kernel
theorem dX11_fire_33 : decode cX11_fire 33 = .ok (.iconst 0, 1) := by decide +kernel
theorem dX11_fire_34 : decode cX11_fire 34 = .ok (.goto 8, 3) := by decide +kernel
theorem dX11_fire_37 : decode cX11_fire 37 = .ok (.aload_n 0, 1) := by decide +kernel
theorem dX11_fire_38 : decode cX11_fire 38 = .ok (.iload_n 1, 1) := by decide +kernel
theorem dX11_fire_39 : decode cX11_fire 39 = .ok (.invokevirtual 440, 3) := by decide +kernel
theorem dX11_fire_42 : decode cX11_fire 42 = .ok (.ireturn, 1) := by decide +kernel
theorem dX11_gave_0 : decode cX11_gave 0 = .ok (.aload_n 0, 1) := by decide +kernel
theorem dX11_gave_1 : decode cX11_gave 1 = .ok (.getfield 433, 3) := by decide +kernel
theorem dX11_gave_4 : decode cX11_gave 4 = .ok (.lreturn, 1) := by decide +kernel
theorem dX11_trace_0 : decode cX11_trace 0 = .ok (.iload_n 1, 1) := by decide +kernel
theorem dX11_trace_1 : decode cX11_trace 1 = .ok (.iconst 0, 1) := by decide +kernel
theorem dX11_trace_2 : decode cX11_trace 2 = .ok (.aload_n 0, 1) := by decide +kernel
theorem dX11_trace_3 : decode cX11_trace 3 = .ok (.getfield 402, 3) := by decide +kernel
theorem dX11_trace_6 : decode cX11_trace 6 = .ok (.iconst 1, 1) := by decide +kernel
theorem dX11_trace_7 : decode cX11_trace 7 = .ok (.isub, 1) := by decide +kernel
theorem dX11_trace_8 : decode cX11_trace 8 = .ok (.invokestatic 205, 3) := by decide +kernel
theorem dX11_trace_11 : decode cX11_trace 11 = .ok (.ifCond .eq 12, 3) := by decide +kernel
theorem dX11_trace_14 : decode cX11_trace 14 = .ok (.aload_n 0, 1) := by decide +kernel
theorem dX11_trace_15 : decode cX11_trace 15 = .ok (.getfield 77, 3) := by decide +kernel
theorem dX11_trace_18 : decode cX11_trace 18 = .ok (.iload_n 1, 1) := by decide +kernel
theorem dX11_trace_19 : decode cX11_trace 19 = .ok (.iaload, 1) := by decide +kernel
theorem dX11_trace_20 : decode cX11_trace 20 = .ok (.goto 5, 3) := by decide +kernel
theorem dX11_trace_23 : decode cX11_trace 23 = .ok (.bipush (-9), 2) := by decide +kernel
theorem dX11_trace_25 : decode cX11_trace 25 = .ok (.ireturn, 1) := by decide +kernel
theorem dX11_deal_0 : decode cX11_deal 0 = .ok (.aload_n 0, 1) := by decide +kernel
theorem dX11_deal_1 : decode cX11_deal 1 = .ok (.iload_n 1, 1) := by decide +kernel
theorem dX11_deal_2 : decode cX11_deal 2 = .ok (.invokevirtual 228, 3) := by decide +kernel
theorem dX11_deal_5 : decode cX11_deal 5 = .ok (.ifCond .eq 12, 3) := by decide +kernel
theorem dX11_deal_8 : decode cX11_deal 8 = .ok (.iload_n 2, 1) := by decide +kernel
theorem dX11_deal_9 : decode cX11_deal 9 = .ok (.iconst 0, 1) := by decide +kernel
theorem dX11_deal_10 : decode cX11_deal 10 = .ok (.iconst 3, 1) := by decide +kernel
theorem dX11_deal_11 : decode cX11_deal 11 = .ok (.invokestatic 205, 3) := by decide +kernel
theorem dX11_deal_14 : decode cX11_deal 14 = .ok (.ifCond .ne 5, 3) := by decide +kernel
theorem dX11_deal_17 : decode cX11_deal 17 = .ok (.iconst (-1), 1) := by decide +kernel
theorem dX11_deal_18 : decode cX11_deal 18 = .ok (.ireturn, 1) := by decide +kernel
theorem dX11_deal_19 : decode cX11_deal 19 = .ok (.aload_n 0, 1) := by decide +kernel
theorem dX11_deal_20 : decode cX11_deal 20 = .ok (.getfield 38, 3) := by decide +kernel
theorem dX11_deal_23 : decode cX11_deal 23 = .ok (.iload_n 1, 1) := by decide +kernel
theorem dX11_deal_24 : decode cX11_deal 24 = .ok (.iaload, 1) := by decide +kernel
theorem dX11_deal_25 : decode cX11_deal 25 = .ok (.istore_n 3, 1) := by decide +kernel
theorem dX11_deal_26 : decode cX11_deal 26 = .ok (.aload_n 0, 1) := by decide +kernel
theorem dX11_deal_27 : decode cX11_deal 27 = .ok (.getfield 38, 3) := by decide +kernel
theorem dX11_deal_30 : decode cX11_deal 30 = .ok (.iload_n 1, 1) := by decide +kernel
theorem dX11_deal_31 : decode cX11_deal 31 = .ok (.iload_n 2, 1) := by decide +kernel
theorem dX11_deal_32 : decode cX11_deal 32 = .ok (.iastore, 1) := by decide +kernel
theorem dX11_deal_33 : decode cX11_deal 33 = .ok (.aload_n 0, 1) := by decide +kernel
theorem dX11_deal_34 : decode cX11_deal 34 = .ok (.invokevirtual 215, 3) := by decide +kernel
theorem dX11_deal_37 : decode cX11_deal 37 = .ok (.iload_n 3, 1) := by decide +kernel
theorem dX11_deal_38 : decode cX11_deal 38 = .ok (.ireturn, 1) := by decide +kernel
theorem dX11_go_0 : decode cX11_go 0 = .ok (.iload_n 1, 1) := by decide +kernel
theorem dX11_go_1 : decode cX11_go 1 = .ok (.iconst 0, 1) := by decide +kernel
theorem dX11_go_2 : decode cX11_go 2 = .ok (.iconst 3, 1) := by decide +kernel
theorem dX11_go_3 : decode cX11_go 3 = .ok (.invokestatic 205, 3) := by decide +kernel
theorem dX11_go_6 : decode cX11_go 6 = .ok (.ifCond .ne 5, 3) := by decide +kernel
theorem dX11_go_9 : decode cX11_go 9 = .ok (.iconst (-1), 1) := by decide +kernel
theorem dX11_go_10 : decode cX11_go 10 = .ok (.ireturn, 1) := by decide +kernel
theorem dX11_go_11 : decode cX11_go 11 = .ok (.iconst 0, 1) := by decide +kernel
theorem dX11_go_12 : decode cX11_go 12 = .ok (.istore_n 2, 1) := by decide +kernel
theorem dX11_go_13 : decode cX11_go 13 = .ok (.iconst 0, 1) := by decide +kernel
theorem dX11_go_14 : decode cX11_go 14 = .ok (.istore_n 3, 1) := by decide +kernel
theorem dX11_go_15 : decode cX11_go 15 = .ok (.iload_n 3, 1) := by decide +kernel
theorem dX11_go_16 : decode cX11_go 16 = .ok (.aload_n 0, 1) := by decide +kernel
theorem dX11_go_17 : decode cX11_go 17 = .ok (.getfield 202, 3) := by decide +kernel
theorem dX11_go_20 : decode cX11_go 20 = .ok (.if_icmp .ge 29, 3) := by decide +kernel
theorem dX11_go_23 : decode cX11_go 23 = .ok (.iload_n 2, 1) := by decide +kernel
theorem dX11_go_24 : decode cX11_go 24 = .ok (.ifCond .ne 13, 3) := by decide +kernel
theorem dX11_go_27 : decode cX11_go 27 = .ok (.aload_n 0, 1) := by decide +kernel
theorem dX11_go_28 : decode cX11_go 28 = .ok (.getfield 38, 3) := by decide +kernel
theorem dX11_go_31 : decode cX11_go 31 = .ok (.iload_n 3, 1) := by decide +kernel
theorem dX11_go_32 : decode cX11_go 32 = .ok (.iaload, 1) := by decide +kernel
theorem dX11_go_33 : decode cX11_go 33 = .ok (.iload_n 1, 1) := by decide +kernel
theorem dX11_go_34 : decode cX11_go 34 = .ok (.if_icmp .ne 7, 3) := by decide +kernel
theorem dX11_go_37 : decode cX11_go 37 = .ok (.iconst 1, 1) := by decide +kernel
theorem dX11_go_38 : decode cX11_go 38 = .ok (.goto 4, 3) := by decide +kernel
theorem dX11_go_41 : decode cX11_go 41 = .ok (.iconst 0, 1) := by decide +kernel
theorem dX11_go_42 : decode cX11_go 42 = .ok (.istore_n 2, 1) := by decide +kernel
theorem dX11_go_43 : decode cX11_go 43 = .ok (.iinc 3 1, 3) := by decide +kernel
theorem dX11_go_46 : decode cX11_go 46 = .ok (.goto (-31), 3) := by decide +kernel
theorem dX11_go_49 : decode cX11_go 49 = .ok (.aload_n 0, 1) := by decide +kernel
theorem dX11_go_50 : decode cX11_go 50 = .ok (.getfield 113, 3) := by decide +kernel
theorem dX11_go_53 : decode cX11_go 53 = .ok (.ifCond .lt 17, 3) := by decide +kernel
theorem dX11_go_56 : decode cX11_go 56 = .ok (.iload_n 2, 1) := by decide +kernel
theorem dX11_go_57 : decode cX11_go 57 = .ok (.ifCond .eq 13, 3) := by decide +kernel
theorem dX11_go_60 : decode cX11_go 60 = .ok (.aload_n 0, 1) := by decide +kernel
theorem dX11_go_61 : decode cX11_go 61 = .ok (.getfield 212, 3) := by decide +kernel
theorem dX11_go_64 : decode cX11_go 64 = .ok (.sipush 5000, 3) := by decide +kernel
theorem dX11_go_67 : decode cX11_go 67 = .ok (.if_icmp .ne 6, 3) := by decide +kernel
theorem dX11_go_70 : decode cX11_go 70 = .ok (.bipush (-4), 2) := by decide +kernel
theorem dX11_go_72 : decode cX11_go 72 = .ok (.ireturn, 1) := by decide +kernel
theorem dX11_go_73 : decode cX11_go 73 = .ok (.aload_n 0, 1) := by decide +kernel
theorem dX11_go_74 : decode cX11_go 74 = .ok (.getfield 80, 3) := by decide +kernel
theorem dX11_go_77 : decode cX11_go 77 = .ok (.iload_n 1, 1) := by decide +kernel
theorem dX11_go_78 : decode cX11_go 78 = .ok (.iaload, 1) := by decide +kernel
theorem dX11_go_79 : decode cX11_go 79 = .ok (.istore_n 3, 1) := by decide +kernel
theorem dX11_go_80 : decode cX11_go 80 = .ok (.aload_n 0, 1) := by decide +kernel
theorem dX11_go_81 : decode cX11_go 81 = .ok (.getfield 38, 3) := by decide +kernel
theorem dX11_go_84 : decode cX11_go 84 = .ok (.aload_n 0, 1) := by decide +kernel
theorem dX11_go_85 : decode cX11_go 85 = .ok (.getfield 110, 3) := by decide +kernel
theorem dX11_go_88 : decode cX11_go 88 = .ok (.iload_n 3, 1) := by decide +kernel
theorem dX11_go_89 : decode cX11_go 89 = .ok (.iaload, 1) := by decide +kernel
theorem dX11_go_90 : decode cX11_go 90 = .ok (.iaload, 1) := by decide +kernel
theorem dX11_go_91 : decode cX11_go 91 = .ok (.iload_n 1, 1) := by decide +kernel
theorem dX11_go_92 : decode cX11_go 92 = .ok (.if_icmp .eq 15, 3) := by decide +kernel
theorem dX11_go_95 : decode cX11_go 95 = .ok (.iload_n 3, 1) := by decide +kernel
theorem dX11_go_96 : decode cX11_go 96 = .ok (.iconst 1, 1) := by decide +kernel
theorem dX11_go_97 : decode cX11_go 97 = .ok (.iadd, 1) := by decide +kernel
theorem dX11_go_98 : decode cX11_go 98 = .ok (.aload_n 0, 1) := by decide +kernel
theorem dX11_go_99 : decode cX11_go 99 = .ok (.getfield 113, 3) := by decide +kernel
theorem dX11_go_102 : decode cX11_go 102 = .ok (.irem, 1) := by decide +kernel
theorem dX11_go_103 : decode cX11_go 103 = .ok (.istore_n 3, 1) := by decide +kernel
theorem dX11_go_104 : decode cX11_go 104 = .ok (.goto (-24), 3) := by decide +kernel
theorem dX11_go_107 : decode cX11_go 107 = .ok (.aload_n 0, 1) := by decide +kernel
theorem dX11_go_108 : decode cX11_go 108 = .ok (.getfield 110, 3) := by decide +kernel
theorem dX11_go_111 : decode cX11_go 111 = .ok (.iload_n 3, 1) := by decide +kernel
theorem dX11_go_112 : decode cX11_go 112 = .ok (.iaload, 1) := by decide +kernel
theorem dX11_go_113 : decode cX11_go 113 = .ok (.istore 4, 2) := by decide +kernel
theorem dX11_go_115 : decode cX11_go 115 = .ok (.aload_n 0, 1) := by decide +kernel
theorem dX11_go_116 : decode cX11_go 116 = .ok (.iload 4, 2) := by decide +kernel
theorem dX11_go_118 : decode cX11_go 118 = .ok (.invokevirtual 399, 3) := by decide +kernel
theorem dX11_go_121 : decode cX11_go 121 = .ok (.ifCond .ne 6, 3) := by decide +kernel
theorem dX11_go_124 : decode cX11_go 124 = .ok (.bipush (-9), 2) := by decide +kernel
theorem dX11_go_126 : decode cX11_go 126 = .ok (.ireturn, 1) := by decide +kernel
theorem dX11_go_127 : decode cX11_go 127 = .ok (.aload_n 0, 1) := by decide +kernel
theorem dX11_go_128 : decode cX11_go 128 = .ok (.iload 4, 2) := by decide +kernel
theorem dX11_go_130 : decode cX11_go 130 = .ok (.invokevirtual 440, 3) := by decide +kernel
theorem dX11_go_133 : decode cX11_go 133 = .ok (.istore 5, 2) := by decide +kernel
theorem dX11_go_135 : decode cX11_go 135 = .ok (.iload 5, 2) := by decide +kernel
theorem dX11_go_137 : decode cX11_go 137 = .ok (.iconst 1, 1) := by decide +kernel
theorem dX11_go_138 : decode cX11_go 138 = .ok (.if_icmp .ne 20, 3) := by decide +kernel
theorem dX11_go_141 : decode cX11_go 141 = .ok (.aload_n 0, 1) := by decide +kernel
theorem dX11_go_142 : decode cX11_go 142 = .ok (.getfield 80, 3) := by decide +kernel
theorem dX11_go_145 : decode cX11_go 145 = .ok (.iload_n 1, 1) := by decide +kernel
theorem dX11_go_146 : decode cX11_go 146 = .ok (.iload_n 3, 1) := by decide +kernel
theorem dX11_go_147 : decode cX11_go 147 = .ok (.iconst 1, 1) := by decide +kernel
theorem dX11_go_148 : decode cX11_go 148 = .ok (.iadd, 1) := by decide +kernel
theorem dX11_go_149 : decode cX11_go 149 = .ok (.aload_n 0, 1) := by decide +kernel
theorem dX11_go_150 : decode cX11_go 150 = .ok (.getfield 113, 3) := by decide +kernel
theorem dX11_go_153 : decode cX11_go 153 = .ok (.irem, 1) := by decide +kernel
theorem dX11_go_154 : decode cX11_go 154 = .ok (.iastore, 1) := by decide +kernel
theorem dX11_go_155 : decode cX11_go 155 = .ok (.iload 4, 2) := by decide +kernel
theorem dX11_go_157 : decode cX11_go 157 = .ok (.ireturn, 1) := by decide +kernel
theorem dX11_go_158 : decode cX11_go 158 = .ok (.iload 5, 2) := by decide +kernel
theorem dX11_go_160 : decode cX11_go 160 = .ok (.ireturn, 1) := by decide +kernel
theorem dX11_reset_0 : decode cX11_reset 0 = .ok (.aload_n 0, 1) := by decide +kernel
theorem dX11_reset_1 : decode cX11_reset 1 = .ok (.getfield 212, 3) := by decide +kernel
theorem dX11_reset_4 : decode cX11_reset 4 = .ok (.istore_n 1, 1) := by decide +kernel
theorem dX11_reset_5 : decode cX11_reset 5 = .ok (.aload_n 0, 1) := by decide +kernel
theorem dX11_reset_6 : decode cX11_reset 6 = .ok (.invokevirtual 218, 3) := by decide +kernel
theorem dX11_reset_9 : decode cX11_reset 9 = .ok (.iload_n 1, 1) := by decide +kernel
theorem dX11_reset_10 : decode cX11_reset 10 = .ok (.ireturn, 1) := by decide +kernel
theorem dX11_things_0 : decode cX11_things 0 = .ok (.aload_n 0, 1) := by decide +kernel
theorem dX11_things_1 : decode cX11_things 1 = .ok (.iload_n 1, 1) := by decide +kernel
theorem dX11_things_2 : decode cX11_things 2 = .ok (.invokevirtual 232, 3) := by decide +kernel
theorem dX11_things_5 : decode cX11_things 5 = .ok (.ifCond .eq 12, 3) := by decide +kernel
theorem dX11_things_8 : decode cX11_things 8 = .ok (.aload_n 0, 1) := by decide +kernel
theorem dX11_things_9 : decode cX11_things 9 = .ok (.getfield 65, 3) := by decide +kernel
theorem dX11_things_12 : decode cX11_things 12 = .ok (.iload_n 1, 1) := by decide +kernel
theorem dX11_things_13 : decode cX11_things 13 = .ok (.iaload, 1) := by decide +kernel
theorem dX11_things_14 : decode cX11_things 14 = .ok (.goto 4, 3) := by decide +kernel
theorem dX11_things_17 : decode cX11_things 17 = .ok (.iconst (-1), 1) := by decide +kernel
theorem dX11_things_18 : decode cX11_things 18 = .ok (.ireturn, 1) := by decide +kernel
theorem dX11_look_0 : decode cX11_look 0 = .ok (.aload_n 0, 1) := by decide +kernel
theorem dX11_look_1 : decode cX11_look 1 = .ok (.iload_n 1, 1) := by decide +kernel
theorem dX11_look_2 : decode cX11_look 2 = .ok (.invokevirtual 232, 3) := by decide +kernel
theorem dX11_look_5 : decode cX11_look 5 = .ok (.ifCond .ne 5, 3) := by decide +kernel
theorem dX11_look_8 : decode cX11_look 8 = .ok (.iconst (-1), 1) := by decide +kernel
theorem dX11_look_9 : decode cX11_look 9 = .ok (.ireturn, 1) := by decide +kernel
theorem dX11_look_10 : decode cX11_look 10 = .ok (.iload_n 2, 1) := by decide +kernel
theorem dX11_look_11 : decode cX11_look 11 = .ok (.iconst 0, 1) := by decide +kernel
theorem dX11_look_12 : decode cX11_look 12 = .ok (.aload_n 0, 1) := by decide +kernel
theorem dX11_look_13 : decode cX11_look 13 = .ok (.getfield 65, 3) := by decide +kernel
theorem dX11_look_16 : decode cX11_look 16 = .ok (.iload_n 1, 1) := by decide +kernel
theorem dX11_look_17 : decode cX11_look 17 = .ok (.iaload, 1) := by decide +kernel
theorem dX11_look_18 : decode cX11_look 18 = .ok (.iconst 1, 1) := by decide +kernel
theorem dX11_look_19 : decode cX11_look 19 = .ok (.isub, 1) := by decide +kernel
theorem dX11_look_20 : decode cX11_look 20 = .ok (.invokestatic 205, 3) := by decide +kernel
theorem dX11_look_23 : decode cX11_look 23 = .ok (.ifCond .ne 9, 3) := by decide +kernel
theorem dX11_look_26 : decode cX11_look 26 = .ok (.aload_n 0, 1) := by decide +kernel
theorem dX11_look_27 : decode cX11_look 27 = .ok (.iconst 2, 1) := by decide +kernel
theorem dX11_look_28 : decode cX11_look 28 = .ok (.invokevirtual 221, 3) := by decide +kernel
theorem dX11_look_31 : decode cX11_look 31 = .ok (.ireturn, 1) := by decide +kernel
theorem dX11_look_32 : decode cX11_look 32 = .ok (.aload_n 0, 1) := by decide +kernel
theorem dX11_look_33 : decode cX11_look 33 = .ok (.aload_n 0, 1) := by decide +kernel
theorem dX11_look_34 : decode cX11_look 34 = .ok (.getfield 68, 3) := by decide +kernel
theorem dX11_look_37 : decode cX11_look 37 = .ok (.sipush 450, 3) := by decide +kernel
theorem dX11_look_40 : decode cX11_look 40 = .ok (.iload_n 1, 1) := by decide +kernel
theorem dX11_look_41 : decode cX11_look 41 = .ok (.imul, 1) := by decide +kernel
theorem dX11_look_42 : decode cX11_look 42 = .ok (.iload_n 2, 1) := by decide +kernel
theorem dX11_look_43 : decode cX11_look 43 = .ok (.iadd, 1) := by decide +kernel
theorem dX11_look_44 : decode cX11_look 44 = .ok (.laload, 1) := by decide +kernel
theorem dX11_look_45 : decode cX11_look 45 = .ok (.putfield 443, 3) := by decide +kernel
theorem dX11_look_48 : decode cX11_look 48 = .ok (.iconst 1, 1) := by decide +kernel
theorem dX11_look_49 : decode cX11_look 49 = .ok (.ireturn, 1) := by decide +kernel
theorem dX11_given_0 : decode cX11_given 0 = .ok (.aload_n 0, 1) := by decide +kernel
theorem dX11_given_1 : decode cX11_given 1 = .ok (.iload_n 1, 1) := by decide +kernel
theorem dX11_given_2 : decode cX11_given 2 = .ok (.invokevirtual 232, 3) := by decide +kernel
theorem dX11_given_5 : decode cX11_given 5 = .ok (.ifCond .eq 14, 3) := by decide +kernel
theorem dX11_given_8 : decode cX11_given 8 = .ok (.iload_n 2, 1) := by decide +kernel
theorem dX11_given_9 : decode cX11_given 9 = .ok (.iconst 0, 1) := by decide +kernel
theorem dX11_given_10 : decode cX11_given 10 = .ok (.sipush 199, 3) := by decide +kernel
theorem dX11_given_13 : decode cX11_given 13 = .ok (.invokestatic 205, 3) := by decide +kernel
theorem dX11_given_16 : decode cX11_given 16 = .ok (.ifCond .ne 5, 3) := by decide +kernel
theorem dX11_given_19 : decode cX11_given 19 = .ok (.iconst (-1), 1) := by decide +kernel
theorem dX11_given_20 : decode cX11_given 20 = .ok (.ireturn, 1) := by decide +kernel
theorem dX11_given_21 : decode cX11_given 21 = .ok (.iload_n 2, 1) := by decide +kernel
theorem dX11_given_22 : decode cX11_given 22 = .ok (.aload_n 0, 1) := by decide +kernel
theorem dX11_given_23 : decode cX11_given 23 = .ok (.getfield 71, 3) := by decide +kernel
theorem dX11_given_26 : decode cX11_given 26 = .ok (.iload_n 1, 1) := by decide +kernel
theorem dX11_given_27 : decode cX11_given 27 = .ok (.iaload, 1) := by decide +kernel
theorem dX11_given_28 : decode cX11_given 28 = .ok (.if_icmp .lt 6, 3) := by decide +kernel
theorem dX11_given_31 : decode cX11_given 31 = .ok (.bipush (-9), 2) := by decide +kernel
theorem dX11_given_33 : decode cX11_given 33 = .ok (.ireturn, 1) := by decide +kernel
theorem dX11_given_34 : decode cX11_given 34 = .ok (.aload_n 0, 1) := by decide +kernel
theorem dX11_given_35 : decode cX11_given 35 = .ok (.aload_n 0, 1) := by decide +kernel
theorem dX11_given_36 : decode cX11_given 36 = .ok (.getfield 74, 3) := by decide +kernel
theorem dX11_given_39 : decode cX11_given 39 = .ok (.sipush 200, 3) := by decide +kernel
theorem dX11_given_42 : decode cX11_given 42 = .ok (.iload_n 1, 1) := by decide +kernel
theorem dX11_given_43 : decode cX11_given 43 = .ok (.imul, 1) := by decide +kernel
theorem dX11_given_44 : decode cX11_given 44 = .ok (.iload_n 2, 1) := by decide +kernel
theorem dX11_given_45 : decode cX11_given 45 = .ok (.iadd, 1) := by decide +kernel
theorem dX11_given_46 : decode cX11_given 46 = .ok (.laload, 1) := by decide +kernel
theorem dX11_given_47 : decode cX11_given 47 = .ok (.putfield 443, 3) := by decide +kernel
theorem dX11_given_50 : decode cX11_given 50 = .ok (.iconst 1, 1) := by decide +kernel
theorem dX11_given_51 : decode cX11_given 51 = .ok (.ireturn, 1) := by decide +kernel
theorem dX11_asked_0 : decode cX11_asked 0 = .ok (.aload_n 0, 1) := by decide +kernel
theorem dX11_asked_1 : decode cX11_asked 1 = .ok (.getfield 443, 3) := by decide +kernel
theorem dX11_asked_4 : decode cX11_asked 4 = .ok (.lreturn, 1) := by decide +kernel
theorem dX11_many_0 : decode cX11_many 0 = .ok (.iload_n 1, 1) := by decide +kernel
theorem dX11_many_1 : decode cX11_many 1 = .ok (.tableswitch 60 0 4 #[35, 40, 45, 50, 55], 35) := by decide +kernel
theorem dX11_many_36 : decode cX11_many 36 = .ok (.aload_n 0, 1) := by decide +kernel
theorem dX11_many_37 : decode cX11_many 37 = .ok (.getfield 202, 3) := by decide +kernel
theorem dX11_many_40 : decode cX11_many 40 = .ok (.ireturn, 1) := by decide +kernel
theorem dX11_many_41 : decode cX11_many 41 = .ok (.aload_n 0, 1) := by decide +kernel
theorem dX11_many_42 : decode cX11_many 42 = .ok (.getfield 209, 3) := by decide +kernel
theorem dX11_many_45 : decode cX11_many 45 = .ok (.ireturn, 1) := by decide +kernel
theorem dX11_many_46 : decode cX11_many 46 = .ok (.aload_n 0, 1) := by decide +kernel
theorem dX11_many_47 : decode cX11_many 47 = .ok (.getfield 212, 3) := by decide +kernel
theorem dX11_many_50 : decode cX11_many 50 = .ok (.ireturn, 1) := by decide +kernel
theorem dX11_many_51 : decode cX11_many 51 = .ok (.aload_n 0, 1) := by decide +kernel
theorem dX11_many_52 : decode cX11_many 52 = .ok (.getfield 113, 3) := by decide +kernel
theorem dX11_many_55 : decode cX11_many 55 = .ok (.ireturn, 1) := by decide +kernel
theorem dX11_many_56 : decode cX11_many 56 = .ok (.aload_n 0, 1) := by decide +kernel
theorem dX11_many_57 : decode cX11_many 57 = .ok (.getfield 365, 3) := by decide +kernel
theorem dX11_many_60 : decode cX11_many 60 = .ok (.ireturn, 1) := by decide +kernel
theorem dX11_many_61 : decode cX11_many 61 = .ok (.iconst (-1), 1) := by decide +kernel
theorem dX11_many_62 : decode cX11_many 62 = .ok (.ireturn, 1) := by decide +kernel
theorem dX11_finding_0 : decode cX11_finding 0 = .ok (.aload_n 0, 1) := by decide +kernel
theorem dX11_finding_1 : decode cX11_finding 1 = .ok (.getfield 199, 3) := by decide +kernel
theorem dX11_finding_4 : decode cX11_finding 4 = .ok (.ireturn, 1) := by decide +kernel
theorem dX11_findings_0 : decode cX11_findings 0 = .ok (.iload_n 1, 1) := by decide +kernel
theorem dX11_findings_1 : decode cX11_findings 1 = .ok (.iconst 1, 1) := by decide +kernel
theorem dX11_findings_2 : decode cX11_findings 2 = .ok (.iconst 5, 1) := by decide +kernel
theorem dX11_findings_3 : decode cX11_findings 3 = .ok (.invokestatic 205, 3) := by decide +kernel
theorem dX11_findings_6 : decode cX11_findings 6 = .ok (.ifCond .eq 12, 3) := by decide +kernel
theorem dX11_findings_9 : decode cX11_findings 9 = .ok (.aload_n 0, 1) := by decide +kernel
theorem dX11_findings_10 : decode cX11_findings 10 = .ok (.getfield 7, 3) := by decide +kernel
theorem dX11_findings_13 : decode cX11_findings 13 = .ok (.iload_n 1, 1) := by decide +kernel
theorem dX11_findings_14 : decode cX11_findings 14 = .ok (.iaload, 1) := by decide +kernel
theorem dX11_findings_15 : decode cX11_findings 15 = .ok (.goto 4, 3) := by decide +kernel
theorem dX11_findings_18 : decode cX11_findings 18 = .ok (.iconst (-1), 1) := by decide +kernel
theorem dX11_findings_19 : decode cX11_findings 19 = .ok (.ireturn, 1) := by decide +kernel
theorem dX11_digest_0 : decode cX11_digest 0 = .ok (.ldc2_w 446, 3) := by decide +kernel
theorem dX11_digest_3 : decode cX11_digest 3 = .ok (.lstore_n 1, 1) := by decide +kernel
theorem dX11_digest_4 : decode cX11_digest 4 = .ok (.iconst 0, 1) := by decide +kernel
theorem dX11_digest_5 : decode cX11_digest 5 = .ok (.istore_n 3, 1) := by decide +kernel
theorem dX11_digest_6 : decode cX11_digest 6 = .ok (.iload_n 3, 1) := by decide +kernel
theorem dX11_digest_7 : decode cX11_digest 7 = .ok (.aload_n 0, 1) := by decide +kernel
theorem dX11_digest_8 : decode cX11_digest 8 = .ok (.getfield 202, 3) := by decide +kernel
theorem dX11_digest_11 : decode cX11_digest 11 = .ok (.if_icmp .ge 103, 3) := by decide +kernel
theorem dX11_digest_14 : decode cX11_digest 14 = .ok (.iconst 0, 1) := by decide +kernel
theorem dX11_digest_15 : decode cX11_digest 15 = .ok (.istore 4, 2) := by decide +kernel
theorem dX11_digest_17 : decode cX11_digest 17 = .ok (.iload 4, 2) := by decide +kernel
theorem dX11_digest_19 : decode cX11_digest 19 = .ok (.iconst 4, 1) := by decide +kernel
theorem dX11_digest_20 : decode cX11_digest 20 = .ok (.if_icmp .gt 24, 3) := by decide +kernel
theorem dX11_digest_23 : decode cX11_digest 23 = .ok (.ldc2_w 448, 3) := by decide +kernel
theorem dX11_digest_26 : decode cX11_digest 26 = .ok (.lload_n 1, 1) := by decide +kernel
theorem dX11_digest_27 : decode cX11_digest 27 = .ok (.lmul, 1) := by decide +kernel
theorem dX11_digest_28 : decode cX11_digest 28 = .ok (.aload_n 0, 1) := by decide +kernel
theorem dX11_digest_29 : decode cX11_digest 29 = .ok (.iload_n 3, 1) := by decide +kernel
theorem dX11_digest_30 : decode cX11_digest 30 = .ok (.iload 4, 2) := by decide +kernel
theorem dX11_digest_32 : decode cX11_digest 32 = .ok (.invokevirtual 238, 3) := by decide +kernel
theorem dX11_digest_35 : decode cX11_digest 35 = .ok (.i2l, 1) := by decide +kernel
theorem dX11_digest_36 : decode cX11_digest 36 = .ok (.ladd, 1) := by decide +kernel
theorem dX11_digest_37 : decode cX11_digest 37 = .ok (.lstore_n 1, 1) := by decide +kernel
theorem dX11_digest_38 : decode cX11_digest 38 = .ok (.iinc 4 1, 3) := by decide +kernel
theorem dX11_digest_41 : decode cX11_digest 41 = .ok (.goto (-24), 3) := by decide +kernel
theorem dX11_digest_44 : decode cX11_digest 44 = .ok (.ldc2_w 448, 3) := by decide +kernel
theorem dX11_digest_47 : decode cX11_digest 47 = .ok (.ldc2_w 448, 3) := by decide +kernel
theorem dX11_digest_50 : decode cX11_digest 50 = .ok (.lload_n 1, 1) := by decide +kernel
theorem dX11_digest_51 : decode cX11_digest 51 = .ok (.lmul, 1) := by decide +kernel
theorem dX11_digest_52 : decode cX11_digest 52 = .ok (.aload_n 0, 1) := by decide +kernel
theorem dX11_digest_53 : decode cX11_digest 53 = .ok (.getfield 59, 3) := by decide +kernel
theorem dX11_digest_56 : decode cX11_digest 56 = .ok (.iload_n 3, 1) := by decide +kernel
theorem dX11_digest_57 : decode cX11_digest 57 = .ok (.iaload, 1) := by decide +kernel
theorem dX11_digest_58 : decode cX11_digest 58 = .ok (.i2l, 1) := by decide +kernel
theorem dX11_digest_59 : decode cX11_digest 59 = .ok (.ladd, 1) := by decide +kernel
theorem dX11_digest_60 : decode cX11_digest 60 = .ok (.lmul, 1) := by decide +kernel
theorem dX11_digest_61 : decode cX11_digest 61 = .ok (.aload_n 0, 1) := by decide +kernel
theorem dX11_digest_62 : decode cX11_digest 62 = .ok (.getfield 62, 3) := by decide +kernel
theorem dX11_digest_65 : decode cX11_digest 65 = .ok (.iload_n 3, 1) := by decide +kernel
theorem dX11_digest_66 : decode cX11_digest 66 = .ok (.laload, 1) := by decide +kernel
theorem dX11_digest_67 : decode cX11_digest 67 = .ok (.ladd, 1) := by decide +kernel
theorem dX11_digest_68 : decode cX11_digest 68 = .ok (.lstore_n 1, 1) := by decide +kernel
theorem dX11_digest_69 : decode cX11_digest 69 = .ok (.iconst 0, 1) := by decide +kernel
theorem dX11_digest_70 : decode cX11_digest 70 = .ok (.istore 4, 2) := by decide +kernel
theorem dX11_digest_72 : decode cX11_digest 72 = .ok (.iload 4, 2) := by decide +kernel
theorem dX11_digest_74 : decode cX11_digest 74 = .ok (.aload_n 0, 1) := by decide +kernel
theorem dX11_digest_75 : decode cX11_digest 75 = .ok (.getfield 29, 3) := by decide +kernel
theorem dX11_digest_78 : decode cX11_digest 78 = .ok (.iload_n 3, 1) := by decide +kernel
theorem dX11_digest_79 : decode cX11_digest 79 = .ok (.iaload, 1) := by decide +kernel
theorem dX11_digest_80 : decode cX11_digest 80 = .ok (.if_icmp .ge 28, 3) := by decide +kernel
theorem dX11_digest_83 : decode cX11_digest 83 = .ok (.ldc2_w 448, 3) := by decide +kernel
theorem dX11_digest_86 : decode cX11_digest 86 = .ok (.lload_n 1, 1) := by decide +kernel
theorem dX11_digest_87 : decode cX11_digest 87 = .ok (.lmul, 1) := by decide +kernel
theorem dX11_digest_88 : decode cX11_digest 88 = .ok (.aload_n 0, 1) := by decide +kernel
theorem dX11_digest_89 : decode cX11_digest 89 = .ok (.getfield 32, 3) := by decide +kernel
theorem dX11_digest_92 : decode cX11_digest 92 = .ok (.bipush 12, 2) := by decide +kernel
theorem dX11_digest_94 : decode cX11_digest 94 = .ok (.iload_n 3, 1) := by decide +kernel
theorem dX11_digest_95 : decode cX11_digest 95 = .ok (.imul, 1) := by decide +kernel
theorem dX11_digest_96 : decode cX11_digest 96 = .ok (.iload 4, 2) := by decide +kernel
theorem dX11_digest_98 : decode cX11_digest 98 = .ok (.iadd, 1) := by decide +kernel
theorem dX11_digest_99 : decode cX11_digest 99 = .ok (.laload, 1) := by decide +kernel
theorem dX11_digest_100 : decode cX11_digest 100 = .ok (.ladd, 1) := by decide +kernel
theorem dX11_digest_101 : decode cX11_digest 101 = .ok (.lstore_n 1, 1) := by decide +kernel
theorem dX11_digest_102 : decode cX11_digest 102 = .ok (.iinc 4 1, 3) := by decide +kernel
theorem dX11_digest_105 : decode cX11_digest 105 = .ok (.goto (-33), 3) := by decide +kernel
theorem dX11_digest_108 : decode cX11_digest 108 = .ok (.iinc 3 1, 3) := by decide +kernel
theorem dX11_digest_111 : decode cX11_digest 111 = .ok (.goto (-105), 3) := by decide +kernel
theorem dX11_digest_114 : decode cX11_digest 114 = .ok (.iconst 0, 1) := by decide +kernel
theorem dX11_digest_115 : decode cX11_digest 115 = .ok (.istore_n 3, 1) := by decide +kernel
theorem dX11_digest_116 : decode cX11_digest 116 = .ok (.iload_n 3, 1) := by decide +kernel
theorem dX11_digest_117 : decode cX11_digest 117 = .ok (.aload_n 0, 1) := by decide +kernel
theorem dX11_digest_118 : decode cX11_digest 118 = .ok (.getfield 209, 3) := by decide +kernel
theorem dX11_digest_121 : decode cX11_digest 121 = .ok (.if_icmp .ge 93, 3) := by decide +kernel
theorem dX11_digest_124 : decode cX11_digest 124 = .ok (.iconst 0, 1) := by decide +kernel
theorem dX11_digest_125 : decode cX11_digest 125 = .ok (.istore 4, 2) := by decide +kernel
theorem dX11_digest_127 : decode cX11_digest 127 = .ok (.iload 4, 2) := by decide +kernel
theorem dX11_digest_129 : decode cX11_digest 129 = .ok (.iconst 4, 1) := by decide +kernel
theorem dX11_digest_130 : decode cX11_digest 130 = .ok (.if_icmp .gt 24, 3) := by decide +kernel
theorem dX11_digest_133 : decode cX11_digest 133 = .ok (.ldc2_w 448, 3) := by decide +kernel
theorem dX11_digest_136 : decode cX11_digest 136 = .ok (.lload_n 1, 1) := by decide +kernel
theorem dX11_digest_137 : decode cX11_digest 137 = .ok (.lmul, 1) := by decide +kernel
theorem dX11_digest_138 : decode cX11_digest 138 = .ok (.aload_n 0, 1) := by decide +kernel
theorem dX11_digest_139 : decode cX11_digest 139 = .ok (.iload_n 3, 1) := by decide +kernel
theorem dX11_digest_140 : decode cX11_digest 140 = .ok (.iload 4, 2) := by decide +kernel
theorem dX11_digest_142 : decode cX11_digest 142 = .ok (.invokevirtual 245, 3) := by decide +kernel
theorem dX11_digest_145 : decode cX11_digest 145 = .ok (.i2l, 1) := by decide +kernel
theorem dX11_digest_146 : decode cX11_digest 146 = .ok (.ladd, 1) := by decide +kernel
theorem dX11_digest_147 : decode cX11_digest 147 = .ok (.lstore_n 1, 1) := by decide +kernel
theorem dX11_digest_148 : decode cX11_digest 148 = .ok (.iinc 4 1, 3) := by decide +kernel
theorem dX11_digest_151 : decode cX11_digest 151 = .ok (.goto (-24), 3) := by decide +kernel
theorem dX11_digest_154 : decode cX11_digest 154 = .ok (.ldc2_w 448, 3) := by decide +kernel
theorem dX11_digest_157 : decode cX11_digest 157 = .ok (.lload_n 1, 1) := by decide +kernel
theorem dX11_digest_158 : decode cX11_digest 158 = .ok (.lmul, 1) := by decide +kernel
theorem dX11_digest_159 : decode cX11_digest 159 = .ok (.aload_n 0, 1) := by decide +kernel
theorem dX11_digest_160 : decode cX11_digest 160 = .ok (.getfield 65, 3) := by decide +kernel
theorem dX11_digest_163 : decode cX11_digest 163 = .ok (.iload_n 3, 1) := by decide +kernel
theorem dX11_digest_164 : decode cX11_digest 164 = .ok (.iaload, 1) := by decide +kernel
theorem dX11_digest_165 : decode cX11_digest 165 = .ok (.i2l, 1) := by decide +kernel
theorem dX11_digest_166 : decode cX11_digest 166 = .ok (.ladd, 1) := by decide +kernel
theorem dX11_digest_167 : decode cX11_digest 167 = .ok (.lstore_n 1, 1) := by decide +kernel
theorem dX11_digest_168 : decode cX11_digest 168 = .ok (.iconst 0, 1) := by decide +kernel
theorem dX11_digest_169 : decode cX11_digest 169 = .ok (.istore 4, 2) := by decide +kernel
theorem dX11_digest_171 : decode cX11_digest 171 = .ok (.iload 4, 2) := by decide +kernel
theorem dX11_digest_173 : decode cX11_digest 173 = .ok (.aload_n 0, 1) := by decide +kernel
theorem dX11_digest_174 : decode cX11_digest 174 = .ok (.getfield 65, 3) := by decide +kernel
theorem dX11_digest_177 : decode cX11_digest 177 = .ok (.iload_n 3, 1) := by decide +kernel
theorem dX11_digest_178 : decode cX11_digest 178 = .ok (.iaload, 1) := by decide +kernel
theorem dX11_digest_179 : decode cX11_digest 179 = .ok (.if_icmp .ge 29, 3) := by decide +kernel
theorem dX11_digest_182 : decode cX11_digest 182 = .ok (.ldc2_w 448, 3) := by decide +kernel
theorem dX11_digest_185 : decode cX11_digest 185 = .ok (.lload_n 1, 1) := by decide +kernel
theorem dX11_digest_186 : decode cX11_digest 186 = .ok (.lmul, 1) := by decide +kernel
theorem dX11_digest_187 : decode cX11_digest 187 = .ok (.aload_n 0, 1) := by decide +kernel
theorem dX11_digest_188 : decode cX11_digest 188 = .ok (.getfield 68, 3) := by decide +kernel
theorem dX11_digest_191 : decode cX11_digest 191 = .ok (.sipush 450, 3) := by decide +kernel
theorem dX11_digest_194 : decode cX11_digest 194 = .ok (.iload_n 3, 1) := by decide +kernel
theorem dX11_digest_195 : decode cX11_digest 195 = .ok (.imul, 1) := by decide +kernel
theorem dX11_digest_196 : decode cX11_digest 196 = .ok (.iload 4, 2) := by decide +kernel
theorem dX11_digest_198 : decode cX11_digest 198 = .ok (.iadd, 1) := by decide +kernel
theorem dX11_digest_199 : decode cX11_digest 199 = .ok (.laload, 1) := by decide +kernel
theorem dX11_digest_200 : decode cX11_digest 200 = .ok (.ladd, 1) := by decide +kernel
theorem dX11_digest_201 : decode cX11_digest 201 = .ok (.lstore_n 1, 1) := by decide +kernel
theorem dX11_digest_202 : decode cX11_digest 202 = .ok (.iinc 4 1, 3) := by decide +kernel
theorem dX11_digest_205 : decode cX11_digest 205 = .ok (.goto (-34), 3) := by decide +kernel
theorem dX11_digest_208 : decode cX11_digest 208 = .ok (.iinc 3 1, 3) := by decide +kernel
theorem dX11_digest_211 : decode cX11_digest 211 = .ok (.goto (-95), 3) := by decide +kernel
theorem dX11_digest_214 : decode cX11_digest 214 = .ok (.iconst 0, 1) := by decide +kernel
theorem dX11_digest_215 : decode cX11_digest 215 = .ok (.istore_n 3, 1) := by decide +kernel
theorem dX11_digest_216 : decode cX11_digest 216 = .ok (.iload_n 3, 1) := by decide +kernel
theorem dX11_digest_217 : decode cX11_digest 217 = .ok (.aload_n 0, 1) := by decide +kernel
theorem dX11_digest_218 : decode cX11_digest 218 = .ok (.getfield 113, 3) := by decide +kernel
theorem dX11_digest_221 : decode cX11_digest 221 = .ok (.if_icmp .ge 23, 3) := by decide +kernel
theorem dX11_digest_224 : decode cX11_digest 224 = .ok (.ldc2_w 448, 3) := by decide +kernel
theorem dX11_digest_227 : decode cX11_digest 227 = .ok (.lload_n 1, 1) := by decide +kernel
theorem dX11_digest_228 : decode cX11_digest 228 = .ok (.lmul, 1) := by decide +kernel
theorem dX11_digest_229 : decode cX11_digest 229 = .ok (.aload_n 0, 1) := by decide +kernel
theorem dX11_digest_230 : decode cX11_digest 230 = .ok (.getfield 110, 3) := by decide +kernel
theorem dX11_digest_233 : decode cX11_digest 233 = .ok (.iload_n 3, 1) := by decide +kernel
theorem dX11_digest_234 : decode cX11_digest 234 = .ok (.iaload, 1) := by decide +kernel
theorem dX11_digest_235 : decode cX11_digest 235 = .ok (.i2l, 1) := by decide +kernel
theorem dX11_digest_236 : decode cX11_digest 236 = .ok (.ladd, 1) := by decide +kernel
theorem dX11_digest_237 : decode cX11_digest 237 = .ok (.lstore_n 1, 1) := by decide +kernel
theorem dX11_digest_238 : decode cX11_digest 238 = .ok (.iinc 3 1, 3) := by decide +kernel
theorem dX11_digest_241 : decode cX11_digest 241 = .ok (.goto (-25), 3) := by decide +kernel
theorem dX11_digest_244 : decode cX11_digest 244 = .ok (.lload_n 1, 1) := by decide +kernel
theorem dX11_digest_245 : decode cX11_digest 245 = .ok (.lreturn, 1) := by decide +kernel
