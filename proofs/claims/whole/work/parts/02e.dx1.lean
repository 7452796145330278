theorem dX0_init_0 : decode cX0_init 0 = .ok (.aload_n 0, 1) := by decide +kernel
theorem dX0_init_1 : decode cX0_init 1 = .ok (.invokespecial 3, 3) := by decide +kernel
theorem dX0_init_4 : decode cX0_init 4 = .ok (.aload_n 0, 1) := by decide +kernel
theorem dX0_init_5 : decode cX0_init 5 = .ok (.bipush 12, 2) := by decide +kernel
theorem dX0_init_7 : decode cX0_init 7 = .ok (.newarray .int, 2) := by decide +kernel
theorem dX0_init_9 : decode cX0_init 9 = .ok (.putfield 9, 3) := by decide +kernel
theorem dX0_init_12 : decode cX0_init 12 = .ok (.aload_n 0, 1) := by decide +kernel
theorem dX0_init_13 : decode cX0_init 13 = .ok (.bipush 60, 2) := by decide +kernel
theorem dX0_init_15 : decode cX0_init 15 = .ok (.newarray .int, 2) := by decide +kernel
theorem dX0_init_17 : decode cX0_init 17 = .ok (.putfield 15, 3) := by decide +kernel
theorem dX0_init_20 : decode cX0_init 20 = .ok (.aload_n 0, 1) := by decide +kernel
theorem dX0_init_21 : decode cX0_init 21 = .ok (.sipush 1260, 3) := by decide +kernel
theorem dX0_init_24 : decode cX0_init 24 = .ok (.newarray .int, 2) := by decide +kernel
theorem dX0_init_26 : decode cX0_init 26 = .ok (.putfield 18, 3) := by decide +kernel
theorem dX0_init_29 : decode cX0_init 29 = .ok (.aload_n 0, 1) := by decide +kernel
theorem dX0_init_30 : decode cX0_init 30 = .ok (.sipush 1260, 3) := by decide +kernel
theorem dX0_init_33 : decode cX0_init 33 = .ok (.newarray .int, 2) := by decide +kernel
theorem dX0_init_35 : decode cX0_init 35 = .ok (.putfield 21, 3) := by decide +kernel
theorem dX0_init_38 : decode cX0_init 38 = .ok (.aload_n 0, 1) := by decide +kernel
theorem dX0_init_39 : decode cX0_init 39 = .ok (.sipush 1260, 3) := by decide +kernel
theorem dX0_init_42 : decode cX0_init 42 = .ok (.newarray .int, 2) := by decide +kernel
theorem dX0_init_44 : decode cX0_init 44 = .ok (.putfield 24, 3) := by decide +kernel
theorem dX0_init_47 : decode cX0_init 47 = .ok (.aload_n 0, 1) := by decide +kernel
theorem dX0_init_48 : decode cX0_init 48 = .ok (.bipush 60, 2) := by decide +kernel
theorem dX0_init_50 : decode cX0_init 50 = .ok (.newarray .long, 2) := by decide +kernel
theorem dX0_init_52 : decode cX0_init 52 = .ok (.putfield 27, 3) := by decide +kernel
theorem dX0_init_55 : decode cX0_init 55 = .ok (.aload_n 0, 1) := by decide +kernel
theorem dX0_init_56 : decode cX0_init 56 = .ok (.bipush 60, 2) := by decide +kernel
theorem dX0_init_58 : decode cX0_init 58 = .ok (.newarray .int, 2) := by decide +kernel
theorem dX0_init_60 : decode cX0_init 60 = .ok (.putfield 31, 3) := by decide +kernel
theorem dX0_init_63 : decode cX0_init 63 = .ok (.aload_n 0, 1) := by decide +kernel
theorem dX0_init_64 : decode cX0_init 64 = .ok (.aload_n 1, 1) := by decide +kernel
theorem dX0_init_65 : decode cX0_init 65 = .ok (.putfield 34, 3) := by decide +kernel
theorem dX0_init_68 : decode cX0_init 68 = .ok (.return_, 1) := by decide +kernel
theorem dX0_forget_0 : decode cX0_forget 0 = .ok (.aload_n 0, 1) := by decide +kernel
theorem dX0_forget_1 : decode cX0_forget 1 = .ok (.iconst 0, 1) := by decide +kernel
theorem dX0_forget_2 : decode cX0_forget 2 = .ok (.putfield 38, 3) := by decide +kernel
theorem dX0_forget_5 : decode cX0_forget 5 = .ok (.return_, 1) := by decide +kernel
theorem dX0_know_0 : decode cX0_know 0 = .ok (.aload_n 0, 1) := by decide +kernel
theorem dX0_know_1 : decode cX0_know 1 = .ok (.getfield 38, 3) := by decide +kernel
theorem dX0_know_4 : decode cX0_know 4 = .ok (.ifCond .eq 4, 3) := by decide +kernel
theorem dX0_know_7 : decode cX0_know 7 = .ok (.return_, 1) := by decide +kernel
theorem dX0_know_8 : decode cX0_know 8 = .ok (.aload_n 0, 1) := by decide +kernel
theorem dX0_know_9 : decode cX0_know 9 = .ok (.invokevirtual 42, 3) := by decide +kernel
theorem dX0_know_12 : decode cX0_know 12 = .ok (.iconst 0, 1) := by decide +kernel
theorem dX0_know_13 : decode cX0_know 13 = .ok (.istore_n 1, 1) := by decide +kernel
theorem dX0_know_14 : decode cX0_know 14 = .ok (.iload_n 1, 1) := by decide +kernel
theorem dX0_know_15 : decode cX0_know 15 = .ok (.aload_n 0, 1) := by decide +kernel
theorem dX0_know_16 : decode cX0_know 16 = .ok (.getfield 34, 3) := by decide +kernel
theorem dX0_know_19 : decode cX0_know 19 = .ok (.getfield 45, 3) := by decide +kernel
theorem dX0_know_22 : decode cX0_know 22 = .ok (.if_icmp .ge 22, 3) := by decide +kernel
theorem dX0_know_25 : decode cX0_know 25 = .ok (.aload_n 0, 1) := by decide +kernel
theorem dX0_know_26 : decode cX0_know 26 = .ok (.aload_n 0, 1) := by decide +kernel
theorem dX0_know_27 : decode cX0_know 27 = .ok (.getfield 34, 3) := by decide +kernel
theorem dX0_know_30 : decode cX0_know 30 = .ok (.getfield 51, 3) := by decide +kernel
theorem dX0_know_33 : decode cX0_know 33 = .ok (.iload_n 1, 1) := by decide +kernel
theorem dX0_know_34 : decode cX0_know 34 = .ok (.aaload, 1) := by decide +kernel
theorem dX0_know_35 : decode cX0_know 35 = .ok (.invokevirtual 55, 3) := by decide +kernel
theorem dX0_know_38 : decode cX0_know 38 = .ok (.iinc 1 1, 3) := by decide +kernel
theorem dX0_know_41 : decode cX0_know 41 = .ok (.goto (-27), 3) := by decide +kernel
theorem dX0_know_44 : decode cX0_know 44 = .ok (.aload_n 0, 1) := by decide +kernel
theorem dX0_know_45 : decode cX0_know 45 = .ok (.invokevirtual 59, 3) := by decide +kernel
theorem dX0_know_48 : decode cX0_know 48 = .ok (.iconst 1, 1) := by decide +kernel
theorem dX0_know_49 : decode cX0_know 49 = .ok (.istore_n 1, 1) := by decide +kernel
theorem dX0_know_50 : decode cX0_know 50 = .ok (.iconst 0, 1) := by decide +kernel
theorem dX0_know_51 : decode cX0_know 51 = .ok (.istore_n 2, 1) := by decide +kernel
theorem dX0_know_52 : decode cX0_know 52 = .ok (.iload_n 2, 1) := by decide +kernel
theorem dX0_know_53 : decode cX0_know 53 = .ok (.ldc 62, 2) := by decide +kernel
theorem dX0_know_55 : decode cX0_know 55 = .ok (.if_icmp .ge 18, 3) := by decide +kernel
theorem dX0_know_58 : decode cX0_know 58 = .ok (.iload_n 1, 1) := by decide +kernel
theorem dX0_know_59 : decode cX0_know 59 = .ok (.ifCond .eq 14, 3) := by decide +kernel
theorem dX0_know_62 : decode cX0_know 62 = .ok (.aload_n 0, 1) := by decide +kernel
theorem dX0_know_63 : decode cX0_know 63 = .ok (.invokevirtual 63, 3) := by decide +kernel
theorem dX0_know_66 : decode cX0_know 66 = .ok (.istore_n 1, 1) := by decide +kernel
theorem dX0_know_67 : decode cX0_know 67 = .ok (.iinc 2 1, 3) := by decide +kernel
theorem dX0_know_70 : decode cX0_know 70 = .ok (.goto (-18), 3) := by decide +kernel
theorem dX0_know_73 : decode cX0_know 73 = .ok (.aload_n 0, 1) := by decide +kernel
theorem dX0_know_74 : decode cX0_know 74 = .ok (.iconst 1, 1) := by decide +kernel
theorem dX0_know_75 : decode cX0_know 75 = .ok (.putfield 38, 3) := by decide +kernel
theorem dX0_know_78 : decode cX0_know 78 = .ok (.return_, 1) := by decide +kernel
theorem dX0_numberFirings_0 : decode cX0_numberFirings 0 = .ok (.aload_n 0, 1) := by decide +kernel
theorem dX0_numberFirings_1 : decode cX0_numberFirings 1 = .ok (.iconst 0, 1) := by decide +kernel
theorem dX0_numberFirings_2 : decode cX0_numberFirings 2 = .ok (.putfield 67, 3) := by decide +kernel
theorem dX0_numberFirings_5 : decode cX0_numberFirings 5 = .ok (.aload_n 0, 1) := by decide +kernel
theorem dX0_numberFirings_6 : decode cX0_numberFirings 6 = .ok (.iconst 0, 1) := by decide +kernel
theorem dX0_numberFirings_7 : decode cX0_numberFirings 7 = .ok (.putfield 70, 3) := by decide +kernel
theorem dX0_numberFirings_10 : decode cX0_numberFirings 10 = .ok (.iconst 0, 1) := by decide +kernel
theorem dX0_numberFirings_11 : decode cX0_numberFirings 11 = .ok (.istore_n 1, 1) := by decide +kernel
theorem dX0_numberFirings_12 : decode cX0_numberFirings 12 = .ok (.iload_n 1, 1) := by decide +kernel
theorem dX0_numberFirings_13 : decode cX0_numberFirings 13 = .ok (.aload_n 0, 1) := by decide +kernel
theorem dX0_numberFirings_14 : decode cX0_numberFirings 14 = .ok (.getfield 34, 3) := by decide +kernel
theorem dX0_numberFirings_17 : decode cX0_numberFirings 17 = .ok (.getfield 73, 3) := by decide +kernel
theorem dX0_numberFirings_20 : decode cX0_numberFirings 20 = .ok (.if_icmp .ge 131, 3) := by decide +kernel
theorem dX0_numberFirings_23 : decode cX0_numberFirings 23 = .ok (.aload_n 0, 1) := by decide +kernel
theorem dX0_numberFirings_24 : decode cX0_numberFirings 24 = .ok (.getfield 34, 3) := by decide +kernel
theorem dX0_numberFirings_27 : decode cX0_numberFirings 27 = .ok (.getfield 76, 3) := by decide +kernel
theorem dX0_numberFirings_30 : decode cX0_numberFirings 30 = .ok (.iload_n 1, 1) := by decide +kernel
theorem dX0_numberFirings_31 : decode cX0_numberFirings 31 = .ok (.aaload, 1) := by decide +kernel
theorem dX0_numberFirings_32 : decode cX0_numberFirings 32 = .ok (.astore_n 2, 1) := by decide +kernel
theorem dX0_numberFirings_33 : decode cX0_numberFirings 33 = .ok (.aload_n 0, 1) := by decide +kernel
theorem dX0_numberFirings_34 : decode cX0_numberFirings 34 = .ok (.getfield 9, 3) := by decide +kernel
theorem dX0_numberFirings_37 : decode cX0_numberFirings 37 = .ok (.iload_n 1, 1) := by decide +kernel
theorem dX0_numberFirings_38 : decode cX0_numberFirings 38 = .ok (.aload_n 0, 1) := by decide +kernel
theorem dX0_numberFirings_39 : decode cX0_numberFirings 39 = .ok (.getfield 67, 3) := by decide +kernel
theorem dX0_numberFirings_42 : decode cX0_numberFirings 42 = .ok (.iastore, 1) := by decide +kernel
theorem dX0_numberFirings_43 : decode cX0_numberFirings 43 = .ok (.iconst 0, 1) := by decide +kernel
theorem dX0_numberFirings_44 : decode cX0_numberFirings 44 = .ok (.istore_n 3, 1) := by decide +kernel
theorem dX0_numberFirings_45 : decode cX0_numberFirings 45 = .ok (.iload_n 3, 1) := by decide +kernel
theorem dX0_numberFirings_46 : decode cX0_numberFirings 46 = .ok (.aload_n 2, 1) := by decide +kernel
theorem dX0_numberFirings_47 : decode cX0_numberFirings 47 = .ok (.getfield 80, 3) := by decide +kernel
theorem dX0_numberFirings_50 : decode cX0_numberFirings 50 = .ok (.if_icmp .ge 95, 3) := by decide +kernel
theorem dX0_numberFirings_53 : decode cX0_numberFirings 53 = .ok (.aload_n 0, 1) := by decide +kernel
theorem dX0_numberFirings_54 : decode cX0_numberFirings 54 = .ok (.getfield 67, 3) := by decide +kernel
theorem dX0_numberFirings_57 : decode cX0_numberFirings 57 = .ok (.bipush 60, 2) := by decide +kernel
theorem dX0_numberFirings_59 : decode cX0_numberFirings 59 = .ok (.if_icmp .ge 86, 3) := by decide +kernel
theorem dX0_numberFirings_62 : decode cX0_numberFirings 62 = .ok (.aload_n 0, 1) := by decide +kernel
theorem dX0_numberFirings_63 : decode cX0_numberFirings 63 = .ok (.getfield 15, 3) := by decide +kernel
theorem dX0_numberFirings_66 : decode cX0_numberFirings 66 = .ok (.aload_n 0, 1) := by decide +kernel
theorem dX0_numberFirings_67 : decode cX0_numberFirings 67 = .ok (.getfield 67, 3) := by decide +kernel
theorem dX0_numberFirings_70 : decode cX0_numberFirings 70 = .ok (.aload_n 2, 1) := by decide +kernel
theorem dX0_numberFirings_71 : decode cX0_numberFirings 71 = .ok (.getfield 85, 3) := by decide +kernel
theorem dX0_numberFirings_74 : decode cX0_numberFirings 74 = .ok (.iastore, 1) := by decide +kernel
theorem dX0_numberFirings_75 : decode cX0_numberFirings 75 = .ok (.aload_n 0, 1) := by decide +kernel
theorem dX0_numberFirings_76 : decode cX0_numberFirings 76 = .ok (.dup, 1) := by decide +kernel
theorem dX0_numberFirings_77 : decode cX0_numberFirings 77 = .ok (.getfield 67, 3) := by decide +kernel
theorem dX0_numberFirings_80 : decode cX0_numberFirings 80 = .ok (.iconst 1, 1) := by decide +kernel
theorem dX0_numberFirings_81 : decode cX0_numberFirings 81 = .ok (.iadd, 1) := by decide +kernel
theorem dX0_numberFirings_82 : decode cX0_numberFirings 82 = .ok (.putfield 67, 3) := by decide +kernel
theorem dX0_numberFirings_85 : decode cX0_numberFirings 85 = .ok (.iload_n 3, 1) := by decide +kernel
theorem dX0_numberFirings_86 : decode cX0_numberFirings 86 = .ok (.ifCond .ne 30, 3) := by decide +kernel
theorem dX0_numberFirings_89 : decode cX0_numberFirings 89 = .ok (.aload_n 0, 1) := by decide +kernel
theorem dX0_numberFirings_90 : decode cX0_numberFirings 90 = .ok (.aload_n 0, 1) := by decide +kernel
theorem dX0_numberFirings_91 : decode cX0_numberFirings 91 = .ok (.getfield 9, 3) := by decide +kernel
theorem dX0_numberFirings_94 : decode cX0_numberFirings 94 = .ok (.iload_n 1, 1) := by decide +kernel
theorem dX0_numberFirings_95 : decode cX0_numberFirings 95 = .ok (.iaload, 1) := by decide +kernel
theorem dX0_numberFirings_96 : decode cX0_numberFirings 96 = .ok (.aload_n 0, 1) := by decide +kernel
theorem dX0_numberFirings_97 : decode cX0_numberFirings 97 = .ok (.getfield 9, 3) := by decide +kernel
theorem dX0_numberFirings_100 : decode cX0_numberFirings 100 = .ok (.iload_n 1, 1) := by decide +kernel
theorem dX0_numberFirings_101 : decode cX0_numberFirings 101 = .ok (.iaload, 1) := by decide +kernel
theorem dX0_numberFirings_102 : decode cX0_numberFirings 102 = .ok (.aload_n 2, 1) := by decide +kernel
theorem dX0_numberFirings_103 : decode cX0_numberFirings 103 = .ok (.getfield 80, 3) := by decide +kernel
theorem dX0_numberFirings_106 : decode cX0_numberFirings 106 = .ok (.iadd, 1) := by decide +kernel
theorem dX0_numberFirings_107 : decode cX0_numberFirings 107 = .ok (.iconst 1, 1) := by decide +kernel
theorem dX0_numberFirings_108 : decode cX0_numberFirings 108 = .ok (.isub, 1) := by decide +kernel
theorem dX0_numberFirings_109 : decode cX0_numberFirings 109 = .ok (.iconst 1, 1) := by decide +kernel
theorem dX0_numberFirings_110 : decode cX0_numberFirings 110 = .ok (.invokevirtual 88, 3) := by decide +kernel
theorem dX0_numberFirings_113 : decode cX0_numberFirings 113 = .ok (.goto 26, 3) := by decide +kernel
theorem dX0_numberFirings_116 : decode cX0_numberFirings 116 = .ok (.aload_n 0, 1) := by decide +kernel
theorem dX0_numberFirings_117 : decode cX0_numberFirings 117 = .ok (.aload_n 0, 1) := by decide +kernel
theorem dX0_numberFirings_118 : decode cX0_numberFirings 118 = .ok (.getfield 9, 3) := by decide +kernel
theorem dX0_numberFirings_121 : decode cX0_numberFirings 121 = .ok (.iload_n 1, 1) := by decide +kernel
theorem dX0_numberFirings_122 : decode cX0_numberFirings 122 = .ok (.iaload, 1) := by decide +kernel
theorem dX0_numberFirings_123 : decode cX0_numberFirings 123 = .ok (.iload_n 3, 1) := by decide +kernel
theorem dX0_numberFirings_124 : decode cX0_numberFirings 124 = .ok (.iadd, 1) := by decide +kernel
theorem dX0_numberFirings_125 : decode cX0_numberFirings 125 = .ok (.aload_n 0, 1) := by decide +kernel
theorem dX0_numberFirings_126 : decode cX0_numberFirings 126 = .ok (.getfield 9, 3) := by decide +kernel
theorem dX0_numberFirings_129 : decode cX0_numberFirings 129 = .ok (.iload_n 1, 1) := by decide +kernel
theorem dX0_numberFirings_130 : decode cX0_numberFirings 130 = .ok (.iaload, 1) := by decide +kernel
theorem dX0_numberFirings_131 : decode cX0_numberFirings 131 = .ok (.iload_n 3, 1) := by decide +kernel
theorem dX0_numberFirings_132 : decode cX0_numberFirings 132 = .ok (.iadd, 1) := by decide +kernel
theorem dX0_numberFirings_133 : decode cX0_numberFirings 133 = .ok (.iconst 1, 1) := by decide +kernel
theorem dX0_numberFirings_134 : decode cX0_numberFirings 134 = .ok (.isub, 1) := by decide +kernel
theorem dX0_numberFirings_135 : decode cX0_numberFirings 135 = .ok (.iconst 0, 1) := by decide +kernel
theorem dX0_numberFirings_136 : decode cX0_numberFirings 136 = .ok (.invokevirtual 88, 3) := by decide +kernel
theorem dX0_numberFirings_139 : decode cX0_numberFirings 139 = .ok (.iinc 3 1, 3) := by decide +kernel
theorem dX0_numberFirings_142 : decode cX0_numberFirings 142 = .ok (.goto (-97), 3) := by decide +kernel
theorem dX0_numberFirings_145 : decode cX0_numberFirings 145 = .ok (.iinc 1 1, 3) := by decide +kernel
theorem dX0_numberFirings_148 : decode cX0_numberFirings 148 = .ok (.goto (-136), 3) := by decide +kernel
theorem dX0_numberFirings_151 : decode cX0_numberFirings 151 = .ok (.return_, 1) := by decide +kernel
theorem dX0_addWait_0 : decode cX0_addWait 0 = .ok (.aload_n 0, 1) := by decide +kernel
theorem dX0_addWait_1 : decode cX0_addWait 1 = .ok (.getfield 70, 3) := by decide +kernel
theorem dX0_addWait_4 : decode cX0_addWait 4 = .ok (.sipush 1260, 3) := by decide +kernel
theorem dX0_addWait_7 : decode cX0_addWait 7 = .ok (.if_icmp .ge 55, 3) := by decide +kernel
theorem dX0_addWait_10 : decode cX0_addWait 10 = .ok (.iload_n 1, 1) := by decide +kernel
theorem dX0_addWait_11 : decode cX0_addWait 11 = .ok (.bipush 60, 2) := by decide +kernel
theorem dX0_addWait_13 : decode cX0_addWait 13 = .ok (.if_icmp .ge 49, 3) := by decide +kernel
theorem dX0_addWait_16 : decode cX0_addWait 16 = .ok (.iload_n 2, 1) := by decide +kernel
theorem dX0_addWait_17 : decode cX0_addWait 17 = .ok (.bipush 60, 2) := by decide +kernel
theorem dX0_addWait_19 : decode cX0_addWait 19 = .ok (.if_icmp .ge 43, 3) := by decide +kernel
theorem dX0_addWait_22 : decode cX0_addWait 22 = .ok (.aload_n 0, 1) := by decide +kernel
theorem dX0_addWait_23 : decode cX0_addWait 23 = .ok (.getfield 18, 3) := by decide +kernel
theorem dX0_addWait_26 : decode cX0_addWait 26 = .ok (.aload_n 0, 1) := by decide +kernel
theorem dX0_addWait_27 : decode cX0_addWait 27 = .ok (.getfield 70, 3) := by decide +kernel
theorem dX0_addWait_30 : decode cX0_addWait 30 = .ok (.iload_n 1, 1) := by decide +kernel
theorem dX0_addWait_31 : decode cX0_addWait 31 = .ok (.iastore, 1) := by decide +kernel
theorem dX0_addWait_32 : decode cX0_addWait 32 = .ok (.aload_n 0, 1) := by decide +kernel
theorem dX0_addWait_33 : decode cX0_addWait 33 = .ok (.getfield 21, 3) := by decide +kernel
theorem dX0_addWait_36 : decode cX0_addWait 36 = .ok (.aload_n 0, 1) := by decide +kernel
theorem dX0_addWait_37 : decode cX0_addWait 37 = .ok (.getfield 70, 3) := by decide +kernel
theorem dX0_addWait_40 : decode cX0_addWait 40 = .ok (.iload_n 2, 1) := by decide +kernel
theorem dX0_addWait_41 : decode cX0_addWait 41 = .ok (.iastore, 1) := by decide +kernel
theorem dX0_addWait_42 : decode cX0_addWait 42 = .ok (.aload_n 0, 1) := by decide +kernel
theorem dX0_addWait_43 : decode cX0_addWait 43 = .ok (.getfield 24, 3) := by decide +kernel
theorem dX0_addWait_46 : decode cX0_addWait 46 = .ok (.aload_n 0, 1) := by decide +kernel
theorem dX0_addWait_47 : decode cX0_addWait 47 = .ok (.getfield 70, 3) := by decide +kernel
theorem dX0_addWait_50 : decode cX0_addWait 50 = .ok (.iload_n 3, 1) := by decide +kernel
theorem dX0_addWait_51 : decode cX0_addWait 51 = .ok (.iastore, 1) := by decide +kernel
theorem dX0_addWait_52 : decode cX0_addWait 52 = .ok (.aload_n 0, 1) := by decide +kernel
theorem dX0_addWait_53 : decode cX0_addWait 53 = .ok (.dup, 1) := by decide +kernel
theorem dX0_addWait_54 : decode cX0_addWait 54 = .ok (.getfield 70, 3) := by decide +kernel
theorem dX0_addWait_57 : decode cX0_addWait 57 = .ok (.iconst 1, 1) := by decide +kernel
theorem dX0_addWait_58 : decode cX0_addWait 58 = .ok (.iadd, 1) := by decide +kernel
theorem dX0_addWait_59 : decode cX0_addWait 59 = .ok (.putfield 70, 3) := by decide +kernel
theorem dX0_addWait_62 : decode cX0_addWait 62 = .ok (.return_, 1) := by decide +kernel
theorem dX0_addWaitsOn_0 : decode cX0_addWaitsOn 0 = .ok (.aload_n 1, 1) := by decide +kernel
theorem dX0_addWaitsOn_1 : decode cX0_addWaitsOn 1 = .ok (.getfield 92, 3) := by decide +kernel
theorem dX0_addWaitsOn_4 : decode cX0_addWaitsOn 4 = .ok (.invokestatic 97, 3) := by decide +kernel
theorem dX0_addWaitsOn_7 : decode cX0_addWaitsOn 7 = .ok (.aload_n 1, 1) := by decide +kernel
theorem dX0_addWaitsOn_8 : decode cX0_addWaitsOn 8 = .ok (.getfield 101, 3) := by decide +kernel
theorem dX0_addWaitsOn_11 : decode cX0_addWaitsOn 11 = .ok (.getfield 80, 3) := by decide +kernel
theorem dX0_addWaitsOn_14 : decode cX0_addWaitsOn 14 = .ok (.aload_n 1, 1) := by decide +kernel
theorem dX0_addWaitsOn_15 : decode cX0_addWaitsOn 15 = .ok (.getfield 101, 3) := by decide +kernel
theorem dX0_addWaitsOn_18 : decode cX0_addWaitsOn 18 = .ok (.getfield 105, 3) := by decide +kernel
theorem dX0_addWaitsOn_21 : decode cX0_addWaitsOn 21 = .ok (.iconst 1, 1) := by decide +kernel
theorem dX0_addWaitsOn_22 : decode cX0_addWaitsOn 22 = .ok (.invokestatic 108, 3) := by decide +kernel
theorem dX0_addWaitsOn_25 : decode cX0_addWaitsOn 25 = .ok (.idiv, 1) := by decide +kernel
theorem dX0_addWaitsOn_26 : decode cX0_addWaitsOn 26 = .ok (.imul, 1) := by decide +kernel
theorem dX0_addWaitsOn_27 : decode cX0_addWaitsOn 27 = .ok (.istore_n 2, 1) := by decide +kernel
theorem dX0_addWaitsOn_28 : decode cX0_addWaitsOn 28 = .ok (.iload_n 2, 1) := by decide +kernel
theorem dX0_addWaitsOn_29 : decode cX0_addWaitsOn 29 = .ok (.ifCond .gt 4, 3) := by decide +kernel
theorem dX0_addWaitsOn_32 : decode cX0_addWaitsOn 32 = .ok (.return_, 1) := by decide +kernel
theorem dX0_addWaitsOn_33 : decode cX0_addWaitsOn 33 = .ok (.iconst 0, 1) := by decide +kernel
theorem dX0_addWaitsOn_34 : decode cX0_addWaitsOn 34 = .ok (.istore_n 3, 1) := by decide +kernel
theorem dX0_addWaitsOn_35 : decode cX0_addWaitsOn 35 = .ok (.iconst 0, 1) := by decide +kernel
theorem dX0_addWaitsOn_36 : decode cX0_addWaitsOn 36 = .ok (.istore 4, 2) := by decide +kernel
theorem dX0_addWaitsOn_38 : decode cX0_addWaitsOn 38 = .ok (.iconst 0, 1) := by decide +kernel
theorem dX0_addWaitsOn_39 : decode cX0_addWaitsOn 39 = .ok (.istore 5, 2) := by decide +kernel
theorem dX0_addWaitsOn_41 : decode cX0_addWaitsOn 41 = .ok (.iload 5, 2) := by decide +kernel
theorem dX0_addWaitsOn_43 : decode cX0_addWaitsOn 43 = .ok (.aload_n 1, 1) := by decide +kernel
theorem dX0_addWaitsOn_44 : decode cX0_addWaitsOn 44 = .ok (.getfield 114, 3) := by decide +kernel
theorem dX0_addWaitsOn_47 : decode cX0_addWaitsOn 47 = .ok (.getfield 80, 3) := by decide +kernel
theorem dX0_addWaitsOn_50 : decode cX0_addWaitsOn 50 = .ok (.if_icmp .ge 107, 3) := by decide +kernel
theorem dX0_addWaitsOn_53 : decode cX0_addWaitsOn 53 = .ok (.aload_n 1, 1) := by decide +kernel
theorem dX0_addWaitsOn_54 : decode cX0_addWaitsOn 54 = .ok (.iload 4, 2) := by decide +kernel
theorem dX0_addWaitsOn_56 : decode cX0_addWaitsOn 56 = .ok (.invokevirtual 117, 3) := by decide +kernel
theorem dX0_addWaitsOn_59 : decode cX0_addWaitsOn 59 = .ok (.istore 6, 2) := by decide +kernel
theorem dX0_addWaitsOn_61 : decode cX0_addWaitsOn 61 = .ok (.aload_n 1, 1) := by decide +kernel
theorem dX0_addWaitsOn_62 : decode cX0_addWaitsOn 62 = .ok (.getfield 114, 3) := by decide +kernel
theorem dX0_addWaitsOn_65 : decode cX0_addWaitsOn 65 = .ok (.iload 4, 2) := by decide +kernel
theorem dX0_addWaitsOn_67 : decode cX0_addWaitsOn 67 = .ok (.invokevirtual 121, 3) := by decide +kernel
theorem dX0_addWaitsOn_70 : decode cX0_addWaitsOn 70 = .ok (.istore 4, 2) := by decide +kernel
theorem dX0_addWaitsOn_72 : decode cX0_addWaitsOn 72 = .ok (.iload_n 3, 1) := by decide +kernel
theorem dX0_addWaitsOn_73 : decode cX0_addWaitsOn 73 = .ok (.iload 6, 2) := by decide +kernel
theorem dX0_addWaitsOn_75 : decode cX0_addWaitsOn 75 = .ok (.iadd, 1) := by decide +kernel
theorem dX0_addWaitsOn_76 : decode cX0_addWaitsOn 76 = .ok (.istore_n 3, 1) := by decide +kernel
theorem dX0_addWaitsOn_77 : decode cX0_addWaitsOn 77 = .ok (.iload 6, 2) := by decide +kernel
theorem dX0_addWaitsOn_79 : decode cX0_addWaitsOn 79 = .ok (.ifCond .le 72, 3) := by decide +kernel
theorem dX0_addWaitsOn_82 : decode cX0_addWaitsOn 82 = .ok (.iload_n 3, 1) := by decide +kernel
theorem dX0_addWaitsOn_83 : decode cX0_addWaitsOn 83 = .ok (.aload_n 1, 1) := by decide +kernel
theorem dX0_addWaitsOn_84 : decode cX0_addWaitsOn 84 = .ok (.getfield 124, 3) := by decide +kernel
theorem dX0_addWaitsOn_87 : decode cX0_addWaitsOn 87 = .ok (.isub, 1) := by decide +kernel
theorem dX0_addWaitsOn_88 : decode cX0_addWaitsOn 88 = .ok (.istore 7, 2) := by decide +kernel
theorem dX0_addWaitsOn_90 : decode cX0_addWaitsOn 90 = .ok (.iload 7, 2) := by decide +kernel
theorem dX0_addWaitsOn_92 : decode cX0_addWaitsOn 92 = .ok (.iconst 1, 1) := by decide +kernel
theorem dX0_addWaitsOn_93 : decode cX0_addWaitsOn 93 = .ok (.isub, 1) := by decide +kernel
theorem dX0_addWaitsOn_94 : decode cX0_addWaitsOn 94 = .ok (.iload_n 2, 1) := by decide +kernel
theorem dX0_addWaitsOn_95 : decode cX0_addWaitsOn 95 = .ok (.invokestatic 127, 3) := by decide +kernel
theorem dX0_addWaitsOn_98 : decode cX0_addWaitsOn 98 = .ok (.istore 8, 2) := by decide +kernel
theorem dX0_addWaitsOn_100 : decode cX0_addWaitsOn 100 = .ok (.aload_n 0, 1) := by decide +kernel
theorem dX0_addWaitsOn_101 : decode cX0_addWaitsOn 101 = .ok (.aload_n 1, 1) := by decide +kernel
theorem dX0_addWaitsOn_102 : decode cX0_addWaitsOn 102 = .ok (.iload 7, 2) := by decide +kernel
theorem dX0_addWaitsOn_104 : decode cX0_addWaitsOn 104 = .ok (.iload 8, 2) := by decide +kernel
theorem dX0_addWaitsOn_106 : decode cX0_addWaitsOn 106 = .ok (.iload_n 2, 1) := by decide +kernel
theorem dX0_addWaitsOn_107 : decode cX0_addWaitsOn 107 = .ok (.imul, 1) := by decide +kernel
theorem dX0_addWaitsOn_108 : decode cX0_addWaitsOn 108 = .ok (.isub, 1) := by decide +kernel
theorem dX0_addWaitsOn_109 : decode cX0_addWaitsOn 109 = .ok (.invokevirtual 130, 3) := by decide +kernel
theorem dX0_addWaitsOn_112 : decode cX0_addWaitsOn 112 = .ok (.istore 9, 2) := by decide +kernel
theorem dX0_addWaitsOn_114 : decode cX0_addWaitsOn 114 = .ok (.aload_n 0, 1) := by decide +kernel
theorem dX0_addWaitsOn_115 : decode cX0_addWaitsOn 115 = .ok (.aload_n 0, 1) := by decide +kernel
theorem dX0_addWaitsOn_116 : decode cX0_addWaitsOn 116 = .ok (.getfield 9, 3) := by decide +kernel
theorem dX0_addWaitsOn_119 : decode cX0_addWaitsOn 119 = .ok (.aload_n 1, 1) := by decide +kernel
theorem dX0_addWaitsOn_120 : decode cX0_addWaitsOn 120 = .ok (.getfield 114, 3) := by decide +kernel
theorem dX0_addWaitsOn_123 : decode cX0_addWaitsOn 123 = .ok (.getfield 134, 3) := by decide +kernel
theorem dX0_addWaitsOn_126 : decode cX0_addWaitsOn 126 = .ok (.iaload, 1) := by decide +kernel
theorem dX0_addWaitsOn_127 : decode cX0_addWaitsOn 127 = .ok (.iload 5, 2) := by decide +kernel
theorem dX0_addWaitsOn_129 : decode cX0_addWaitsOn 129 = .ok (.iadd, 1) := by decide +kernel
theorem dX0_addWaitsOn_130 : decode cX0_addWaitsOn 130 = .ok (.aload_n 0, 1) := by decide +kernel
theorem dX0_addWaitsOn_131 : decode cX0_addWaitsOn 131 = .ok (.getfield 9, 3) := by decide +kernel
theorem dX0_addWaitsOn_134 : decode cX0_addWaitsOn 134 = .ok (.aload_n 1, 1) := by decide +kernel
theorem dX0_addWaitsOn_135 : decode cX0_addWaitsOn 135 = .ok (.getfield 101, 3) := by decide +kernel
theorem dX0_addWaitsOn_138 : decode cX0_addWaitsOn 138 = .ok (.getfield 134, 3) := by decide +kernel
theorem dX0_addWaitsOn_141 : decode cX0_addWaitsOn 141 = .ok (.iaload, 1) := by decide +kernel
theorem dX0_addWaitsOn_142 : decode cX0_addWaitsOn 142 = .ok (.iload 9, 2) := by decide +kernel
theorem dX0_addWaitsOn_144 : decode cX0_addWaitsOn 144 = .ok (.iadd, 1) := by decide +kernel
theorem dX0_addWaitsOn_145 : decode cX0_addWaitsOn 145 = .ok (.iload 8, 2) := by decide +kernel
theorem dX0_addWaitsOn_147 : decode cX0_addWaitsOn 147 = .ok (.ineg, 1) := by decide +kernel
theorem dX0_addWaitsOn_148 : decode cX0_addWaitsOn 148 = .ok (.invokevirtual 88, 3) := by decide +kernel
theorem dX0_addWaitsOn_151 : decode cX0_addWaitsOn 151 = .ok (.iinc 5 1, 3) := by decide +kernel
theorem dX0_addWaitsOn_154 : decode cX0_addWaitsOn 154 = .ok (.goto (-113), 3) := by decide +kernel
theorem dX0_addWaitsOn_157 : decode cX0_addWaitsOn 157 = .ok (.return_, 1) := by decide +kernel
theorem dX0_firingThatReaches_0 : decode cX0_firingThatReaches 0 = .ok (.iconst 0, 1) := by decide +kernel
theorem dX0_firingThatReaches_1 : decode cX0_firingThatReaches 1 = .ok (.istore_n 3, 1) := by decide +kernel
theorem dX0_firingThatReaches_2 : decode cX0_firingThatReaches 2 = .ok (.iconst 0, 1) := by decide +kernel
theorem dX0_firingThatReaches_3 : decode cX0_firingThatReaches 3 = .ok (.istore 4, 2) := by decide +kernel
theorem dX0_firingThatReaches_5 : decode cX0_firingThatReaches 5 = .ok (.iconst 0, 1) := by decide +kernel
theorem dX0_firingThatReaches_6 : decode cX0_firingThatReaches 6 = .ok (.istore 5, 2) := by decide +kernel
theorem dX0_firingThatReaches_8 : decode cX0_firingThatReaches 8 = .ok (.iload 5, 2) := by decide +kernel
theorem dX0_firingThatReaches_10 : decode cX0_firingThatReaches 10 = .ok (.aload_n 1, 1) := by decide +kernel
theorem dX0_firingThatReaches_11 : decode cX0_firingThatReaches 11 = .ok (.getfield 101, 3) := by decide +kernel
theorem dX0_firingThatReaches_14 : decode cX0_firingThatReaches 14 = .ok (.getfield 80, 3) := by decide +kernel
theorem dX0_firingThatReaches_17 : decode cX0_firingThatReaches 17 = .ok (.if_icmp .ge 37, 3) := by decide +kernel
theorem dX0_firingThatReaches_20 : decode cX0_firingThatReaches 20 = .ok (.iload_n 3, 1) := by decide +kernel
theorem dX0_firingThatReaches_21 : decode cX0_firingThatReaches 21 = .ok (.aload_n 1, 1) := by decide +kernel
theorem dX0_firingThatReaches_22 : decode cX0_firingThatReaches 22 = .ok (.iload 4, 2) := by decide +kernel
theorem dX0_firingThatReaches_24 : decode cX0_firingThatReaches 24 = .ok (.invokevirtual 137, 3) := by decide +kernel
theorem dX0_firingThatReaches_27 : decode cX0_firingThatReaches 27 = .ok (.iadd, 1) := by decide +kernel
theorem dX0_firingThatReaches_28 : decode cX0_firingThatReaches 28 = .ok (.istore_n 3, 1) := by decide +kernel
theorem dX0_firingThatReaches_29 : decode cX0_firingThatReaches 29 = .ok (.aload_n 1, 1) := by decide +kernel
theorem dX0_firingThatReaches_30 : decode cX0_firingThatReaches 30 = .ok (.getfield 101, 3) := by decide +kernel
theorem dX0_firingThatReaches_33 : decode cX0_firingThatReaches 33 = .ok (.iload 4, 2) := by decide +kernel
theorem dX0_firingThatReaches_35 : decode cX0_firingThatReaches 35 = .ok (.invokevirtual 121, 3) := by decide +kernel
theorem dX0_firingThatReaches_38 : decode cX0_firingThatReaches 38 = .ok (.istore 4, 2) := by decide +kernel
theorem dX0_firingThatReaches_40 : decode cX0_firingThatReaches 40 = .ok (.iload_n 3, 1) := by decide +kernel
theorem dX0_firingThatReaches_41 : decode cX0_firingThatReaches 41 = .ok (.iload_n 2, 1) := by decide +kernel
theorem dX0_firingThatReaches_42 : decode cX0_firingThatReaches 42 = .ok (.if_icmp .lt 6, 3) := by decide +kernel
theorem dX0_firingThatReaches_45 : decode cX0_firingThatReaches 45 = .ok (.iload 5, 2) := by decide +kernel
theorem dX0_firingThatReaches_47 : decode cX0_firingThatReaches 47 = .ok (.ireturn, 1) := by decide +kernel
theorem dX0_firingThatReaches_48 : decode cX0_firingThatReaches 48 = .ok (.iinc 5 1, 3) := by decide +kernel
theorem dX0_firingThatReaches_51 : decode cX0_firingThatReaches 51 = .ok (.goto (-43), 3) := by decide +kernel
theorem dX0_firingThatReaches_54 : decode cX0_firingThatReaches 54 = .ok (.aload_n 1, 1) := by decide +kernel
theorem dX0_firingThatReaches_55 : decode cX0_firingThatReaches 55 = .ok (.getfield 101, 3) := by decide +kernel
theorem dX0_firingThatReaches_58 : decode cX0_firingThatReaches 58 = .ok (.getfield 80, 3) := by decide +kernel
theorem dX0_firingThatReaches_61 : decode cX0_firingThatReaches 61 = .ok (.iconst 1, 1) := by decide +kernel
theorem dX0_firingThatReaches_62 : decode cX0_firingThatReaches 62 = .ok (.isub, 1) := by decide +kernel
theorem dX0_firingThatReaches_63 : decode cX0_firingThatReaches 63 = .ok (.iconst 0, 1) := by decide +kernel
theorem dX0_firingThatReaches_64 : decode cX0_firingThatReaches 64 = .ok (.invokestatic 108, 3) := by decide +kernel
theorem dX0_firingThatReaches_67 : decode cX0_firingThatReaches 67 = .ok (.ireturn, 1) := by decide +kernel
theorem dX0_beginWithOwnRings_0 : decode cX0_beginWithOwnRings 0 = .ok (.aload_n 0, 1) := by decide +kernel
theorem dX0_beginWithOwnRings_1 : decode cX0_beginWithOwnRings 1 = .ok (.lconst 0, 1) := by decide +kernel
theorem dX0_beginWithOwnRings_2 : decode cX0_beginWithOwnRings 2 = .ok (.putfield 140, 3) := by decide +kernel
theorem dX0_beginWithOwnRings_5 : decode cX0_beginWithOwnRings 5 = .ok (.aload_n 0, 1) := by decide +kernel
theorem dX0_beginWithOwnRings_6 : decode cX0_beginWithOwnRings 6 = .ok (.lconst 1, 1) := by decide +kernel
theorem dX0_beginWithOwnRings_7 : decode cX0_beginWithOwnRings 7 = .ok (.putfield 144, 3) := by decide +kernel
theorem dX0_beginWithOwnRings_10 : decode cX0_beginWithOwnRings 10 = .ok (.iconst 0, 1) := by decide +kernel
theorem dX0_beginWithOwnRings_11 : decode cX0_beginWithOwnRings 11 = .ok (.istore_n 1, 1) := by decide +kernel
theorem dX0_beginWithOwnRings_12 : decode cX0_beginWithOwnRings 12 = .ok (.iload_n 1, 1) := by decide +kernel
theorem dX0_beginWithOwnRings_13 : decode cX0_beginWithOwnRings 13 = .ok (.aload_n 0, 1) := by decide +kernel
theorem dX0_beginWithOwnRings_14 : decode cX0_beginWithOwnRings 14 = .ok (.getfield 34, 3) := by decide +kernel
theorem dX0_beginWithOwnRings_17 : decode cX0_beginWithOwnRings 17 = .ok (.getfield 73, 3) := by decide +kernel
theorem dX0_beginWithOwnRings_20 : decode cX0_beginWithOwnRings 20 = .ok (.if_icmp .ge 41, 3) := by decide +kernel
theorem dX0_beginWithOwnRings_23 : decode cX0_beginWithOwnRings 23 = .ok (.aload_n 0, 1) := by decide +kernel
theorem dX0_beginWithOwnRings_24 : decode cX0_beginWithOwnRings 24 = .ok (.getfield 34, 3) := by decide +kernel
theorem dX0_beginWithOwnRings_27 : decode cX0_beginWithOwnRings 27 = .ok (.getfield 76, 3) := by decide +kernel
theorem dX0_beginWithOwnRings_30 : decode cX0_beginWithOwnRings 30 = .ok (.iload_n 1, 1) := by decide +kernel
theorem dX0_beginWithOwnRings_31 : decode cX0_beginWithOwnRings 31 = .ok (.aaload, 1) := by decide +kernel
theorem dX0_beginWithOwnRings_32 : decode cX0_beginWithOwnRings 32 = .ok (.astore_n 2, 1) := by decide +kernel
theorem dX0_beginWithOwnRings_33 : decode cX0_beginWithOwnRings 33 = .ok (.aload_n 0, 1) := by decide +kernel
theorem dX0_beginWithOwnRings_34 : decode cX0_beginWithOwnRings 34 = .ok (.aload_n 0, 1) := by decide +kernel
theorem dX0_beginWithOwnRings_35 : decode cX0_beginWithOwnRings 35 = .ok (.getfield 140, 3) := by decide +kernel
theorem dX0_beginWithOwnRings_38 : decode cX0_beginWithOwnRings 38 = .ok (.aload_n 2, 1) := by decide +kernel
theorem dX0_beginWithOwnRings_39 : decode cX0_beginWithOwnRings 39 = .ok (.getfield 85, 3) := by decide +kernel
theorem dX0_beginWithOwnRings_42 : decode cX0_beginWithOwnRings 42 = .ok (.i2l, 1) := by decide +kernel
theorem dX0_beginWithOwnRings_43 : decode cX0_beginWithOwnRings 43 = .ok (.aload_n 2, 1) := by decide +kernel
theorem dX0_beginWithOwnRings_44 : decode cX0_beginWithOwnRings 44 = .ok (.getfield 80, 3) := by decide +kernel
theorem dX0_beginWithOwnRings_47 : decode cX0_beginWithOwnRings 47 = .ok (.i2l, 1) := by decide +kernel
theorem dX0_beginWithOwnRings_48 : decode cX0_beginWithOwnRings 48 = .ok (.lmul, 1) := by decide +kernel
theorem dX0_beginWithOwnRings_49 : decode cX0_beginWithOwnRings 49 = .ok (.invokestatic 147, 3) := by decide +kernel
theorem dX0_beginWithOwnRings_52 : decode cX0_beginWithOwnRings 52 = .ok (.putfield 140, 3) := by decide +kernel
theorem dX0_beginWithOwnRings_55 : decode cX0_beginWithOwnRings 55 = .ok (.iinc 1 1, 3) := by decide +kernel
theorem dX0_beginWithOwnRings_58 : decode cX0_beginWithOwnRings 58 = .ok (.goto (-46), 3) := by decide +kernel
theorem dX0_beginWithOwnRings_61 : decode cX0_beginWithOwnRings 61 = .ok (.return_, 1) := by decide +kernel
theorem dX0_findSlowerRing_0 : decode cX0_findSlowerRing 0 = .ok (.aload_n 0, 1) := by decide +kernel
theorem dX0_findSlowerRing_1 : decode cX0_findSlowerRing 1 = .ok (.getfield 27, 3) := by decide +kernel
theorem dX0_findSlowerRing_4 : decode cX0_findSlowerRing 4 = .ok (.lconst 0, 1) := by decide +kernel
theorem dX0_findSlowerRing_5 : decode cX0_findSlowerRing 5 = .ok (.invokestatic 150, 3) := by decide +kernel
theorem dX0_findSlowerRing_8 : decode cX0_findSlowerRing 8 = .ok (.aload_n 0, 1) := by decide +kernel
theorem dX0_findSlowerRing_9 : decode cX0_findSlowerRing 9 = .ok (.getfield 31, 3) := by decide +kernel
theorem dX0_findSlowerRing_12 : decode cX0_findSlowerRing 12 = .ok (.bipush (-9), 2) := by decide +kernel
theorem dX0_findSlowerRing_14 : decode cX0_findSlowerRing 14 = .ok (.invokestatic 156, 3) := by decide +kernel
theorem dX0_findSlowerRing_17 : decode cX0_findSlowerRing 17 = .ok (.bipush (-9), 2) := by decide +kernel
theorem dX0_findSlowerRing_19 : decode cX0_findSlowerRing 19 = .ok (.istore_n 1, 1) := by decide +kernel
theorem dX0_findSlowerRing_20 : decode cX0_findSlowerRing 20 = .ok (.iconst 0, 1) := by decide +kernel
theorem dX0_findSlowerRing_21 : decode cX0_findSlowerRing 21 = .ok (.istore_n 2, 1) := by decide +kernel
theorem dX0_findSlowerRing_22 : decode cX0_findSlowerRing 22 = .ok (.iload_n 2, 1) := by decide +kernel
theorem dX0_findSlowerRing_23 : decode cX0_findSlowerRing 23 = .ok (.aload_n 0, 1) := by decide +kernel
theorem dX0_findSlowerRing_24 : decode cX0_findSlowerRing 24 = .ok (.getfield 67, 3) := by decide +kernel
theorem dX0_findSlowerRing_27 : decode cX0_findSlowerRing 27 = .ok (.if_icmp .gt 20, 3) := by decide +kernel
theorem dX0_findSlowerRing_30 : decode cX0_findSlowerRing 30 = .ok (.aload_n 0, 1) := by decide +kernel
theorem dX0_findSlowerRing_31 : decode cX0_findSlowerRing 31 = .ok (.invokevirtual 159, 3) := by decide +kernel
theorem dX0_findSlowerRing_34 : decode cX0_findSlowerRing 34 = .ok (.istore_n 1, 1) := by decide +kernel
theorem dX0_findSlowerRing_35 : decode cX0_findSlowerRing 35 = .ok (.iload_n 1, 1) := by decide +kernel
theorem dX0_findSlowerRing_36 : decode cX0_findSlowerRing 36 = .ok (.ifCond .ge 5, 3) := by decide +kernel
theorem dX0_findSlowerRing_39 : decode cX0_findSlowerRing 39 = .ok (.iconst 0, 1) := by decide +kernel
theorem dX0_findSlowerRing_40 : decode cX0_findSlowerRing 40 = .ok (.ireturn, 1) := by decide +kernel
theorem dX0_findSlowerRing_41 : decode cX0_findSlowerRing 41 = .ok (.iinc 2 1, 3) := by decide +kernel
theorem dX0_findSlowerRing_44 : decode cX0_findSlowerRing 44 = .ok (.goto (-22), 3) := by decide +kernel
theorem dX0_findSlowerRing_47 : decode cX0_findSlowerRing 47 = .ok (.iload_n 1, 1) := by decide +kernel
theorem dX0_findSlowerRing_48 : decode cX0_findSlowerRing 48 = .ok (.istore_n 2, 1) := by decide +kernel
theorem dX0_findSlowerRing_49 : decode cX0_findSlowerRing 49 = .ok (.iconst 0, 1) := by decide +kernel
theorem dX0_findSlowerRing_50 : decode cX0_findSlowerRing 50 = .ok (.istore_n 3, 1) := by decide +kernel
theorem dX0_findSlowerRing_51 : decode cX0_findSlowerRing 51 = .ok (.iload_n 3, 1) := by decide +kernel
theorem dX0_findSlowerRing_52 : decode cX0_findSlowerRing 52 = .ok (.aload_n 0, 1) := by decide +kernel
theorem dX0_findSlowerRing_53 : decode cX0_findSlowerRing 53 = .ok (.getfield 67, 3) := by decide +kernel
theorem dX0_findSlowerRing_56 : decode cX0_findSlowerRing 56 = .ok (.if_icmp .ge 36, 3) := by decide +kernel
theorem dX0_findSlowerRing_59 : decode cX0_findSlowerRing 59 = .ok (.iload_n 2, 1) := by decide +kernel
theorem dX0_findSlowerRing_60 : decode cX0_findSlowerRing 60 = .ok (.ifCond .lt 12, 3) := by decide +kernel
theorem dX0_findSlowerRing_63 : decode cX0_findSlowerRing 63 = .ok (.aload_n 0, 1) := by decide +kernel
theorem dX0_findSlowerRing_64 : decode cX0_findSlowerRing 64 = .ok (.getfield 31, 3) := by decide +kernel
theorem dX0_findSlowerRing_67 : decode cX0_findSlowerRing 67 = .ok (.iload_n 2, 1) := by decide +kernel
theorem dX0_findSlowerRing_68 : decode cX0_findSlowerRing 68 = .ok (.iaload, 1) := by decide +kernel
theorem dX0_findSlowerRing_69 : decode cX0_findSlowerRing 69 = .ok (.ifCond .ge 5, 3) := by decide +kernel
theorem dX0_findSlowerRing_72 : decode cX0_findSlowerRing 72 = .ok (.iconst 0, 1) := by decide +kernel
theorem dX0_findSlowerRing_73 : decode cX0_findSlowerRing 73 = .ok (.ireturn, 1) := by decide +kernel
theorem dX0_findSlowerRing_74 : decode cX0_findSlowerRing 74 = .ok (.aload_n 0, 1) := by decide +kernel
theorem dX0_findSlowerRing_75 : decode cX0_findSlowerRing 75 = .ok (.getfield 21, 3) := by decide +kernel
theorem dX0_findSlowerRing_78 : decode cX0_findSlowerRing 78 = .ok (.aload_n 0, 1) := by decide +kernel
theorem dX0_findSlowerRing_79 : decode cX0_findSlowerRing 79 = .ok (.getfield 31, 3) := by decide +kernel
theorem dX0_findSlowerRing_82 : decode cX0_findSlowerRing 82 = .ok (.iload_n 2, 1) := by decide +kernel
theorem dX0_findSlowerRing_83 : decode cX0_findSlowerRing 83 = .ok (.iaload, 1) := by decide +kernel
theorem dX0_findSlowerRing_84 : decode cX0_findSlowerRing 84 = .ok (.iaload, 1) := by decide +kernel
theorem dX0_findSlowerRing_85 : decode cX0_findSlowerRing 85 = .ok (.istore_n 2, 1) := by decide +kernel
theorem dX0_findSlowerRing_86 : decode cX0_findSlowerRing 86 = .ok (.iinc 3 1, 3) := by decide +kernel
theorem dX0_findSlowerRing_89 : decode cX0_findSlowerRing 89 = .ok (.goto (-38), 3) := by decide +kernel
theorem dX0_findSlowerRing_92 : decode cX0_findSlowerRing 92 = .ok (.aload_n 0, 1) := by decide +kernel
theorem dX0_findSlowerRing_93 : decode cX0_findSlowerRing 93 = .ok (.iload_n 2, 1) := by decide +kernel
theorem dX0_findSlowerRing_94 : decode cX0_findSlowerRing 94 = .ok (.invokevirtual 163, 3) := by decide +kernel
theorem dX0_findSlowerRing_97 : decode cX0_findSlowerRing 97 = .ok (.ireturn, 1) := by decide +kernel
theorem dX0_reachFurther_0 : decode cX0_reachFurther 0 = .ok (.bipush (-9), 2) := by decide +kernel
theorem dX0_reachFurther_2 : decode cX0_reachFurther 2 = .ok (.istore_n 1, 1) := by decide +kernel
theorem dX0_reachFurther_3 : decode cX0_reachFurther 3 = .ok (.iconst 0, 1) := by decide +kernel
theorem dX0_reachFurther_4 : decode cX0_reachFurther 4 = .ok (.istore_n 2, 1) := by decide +kernel
theorem dX0_reachFurther_5 : decode cX0_reachFurther 5 = .ok (.iload_n 2, 1) := by decide +kernel
theorem dX0_reachFurther_6 : decode cX0_reachFurther 6 = .ok (.aload_n 0, 1) := by decide +kernel
theorem dX0_reachFurther_7 : decode cX0_reachFurther 7 = .ok (.getfield 70, 3) := by decide +kernel
theorem dX0_reachFurther_10 : decode cX0_reachFurther 10 = .ok (.if_icmp .ge 99, 3) := by decide +kernel
theorem dX0_reachFurther_13 : decode cX0_reachFurther 13 = .ok (.aload_n 0, 1) := by decide +kernel
theorem dX0_reachFurther_14 : decode cX0_reachFurther 14 = .ok (.getfield 21, 3) := by decide +kernel
theorem dX0_reachFurther_17 : decode cX0_reachFurther 17 = .ok (.iload_n 2, 1) := by decide +kernel
theorem dX0_reachFurther_18 : decode cX0_reachFurther 18 = .ok (.iaload, 1) := by decide +kernel
theorem dX0_reachFurther_19 : decode cX0_reachFurther 19 = .ok (.istore_n 3, 1) := by decide +kernel
theorem dX0_reachFurther_20 : decode cX0_reachFurther 20 = .ok (.aload_n 0, 1) := by decide +kernel
theorem dX0_reachFurther_21 : decode cX0_reachFurther 21 = .ok (.getfield 27, 3) := by decide +kernel
theorem dX0_reachFurther_24 : decode cX0_reachFurther 24 = .ok (.iload_n 3, 1) := by decide +kernel
theorem dX0_reachFurther_25 : decode cX0_reachFurther 25 = .ok (.laload, 1) := by decide +kernel
theorem dX0_reachFurther_26 : decode cX0_reachFurther 26 = .ok (.aload_n 0, 1) := by decide +kernel
theorem dX0_reachFurther_27 : decode cX0_reachFurther 27 = .ok (.getfield 144, 3) := by decide +kernel
theorem dX0_reachFurther_30 : decode cX0_reachFurther 30 = .ok (.aload_n 0, 1) := by decide +kernel
theorem dX0_reachFurther_31 : decode cX0_reachFurther 31 = .ok (.getfield 15, 3) := by decide +kernel
theorem dX0_reachFurther_34 : decode cX0_reachFurther 34 = .ok (.iload_n 3, 1) := by decide +kernel
theorem dX0_reachFurther_35 : decode cX0_reachFurther 35 = .ok (.iaload, 1) := by decide +kernel
theorem dX0_reachFurther_36 : decode cX0_reachFurther 36 = .ok (.i2l, 1) := by decide +kernel
theorem dX0_reachFurther_37 : decode cX0_reachFurther 37 = .ok (.lmul, 1) := by decide +kernel
theorem dX0_reachFurther_38 : decode cX0_reachFurther 38 = .ok (.ladd, 1) := by decide +kernel
theorem dX0_reachFurther_39 : decode cX0_reachFurther 39 = .ok (.aload_n 0, 1) := by decide +kernel
theorem dX0_reachFurther_40 : decode cX0_reachFurther 40 = .ok (.getfield 140, 3) := by decide +kernel
theorem dX0_reachFurther_43 : decode cX0_reachFurther 43 = .ok (.aload_n 0, 1) := by decide +kernel
theorem dX0_reachFurther_44 : decode cX0_reachFurther 44 = .ok (.getfield 24, 3) := by decide +kernel
theorem dX0_reachFurther_47 : decode cX0_reachFurther 47 = .ok (.iload_n 2, 1) := by decide +kernel
theorem dX0_reachFurther_48 : decode cX0_reachFurther 48 = .ok (.iaload, 1) := by decide +kernel
theorem dX0_reachFurther_49 : decode cX0_reachFurther 49 = .ok (.i2l, 1) := by decide +kernel
theorem dX0_reachFurther_50 : decode cX0_reachFurther 50 = .ok (.lmul, 1) := by decide +kernel
theorem dX0_reachFurther_51 : decode cX0_reachFurther 51 = .ok (.lsub, 1) := by decide +kernel
theorem dX0_reachFurther_52 : decode cX0_reachFurther 52 = .ok (.lstore 4, 2) := by decide +kernel
theorem dX0_reachFurther_54 : decode cX0_reachFurther 54 = .ok (.lload 4, 2) := by decide +kernel
theorem dX0_reachFurther_56 : decode cX0_reachFurther 56 = .ok (.aload_n 0, 1) := by decide +kernel
theorem dX0_reachFurther_57 : decode cX0_reachFurther 57 = .ok (.getfield 27, 3) := by decide +kernel
theorem dX0_reachFurther_60 : decode cX0_reachFurther 60 = .ok (.aload_n 0, 1) := by decide +kernel
theorem dX0_reachFurther_61 : decode cX0_reachFurther 61 = .ok (.getfield 18, 3) := by decide +kernel
theorem dX0_reachFurther_64 : decode cX0_reachFurther 64 = .ok (.iload_n 2, 1) := by decide +kernel
theorem dX0_reachFurther_65 : decode cX0_reachFurther 65 = .ok (.iaload, 1) := by decide +kernel
theorem dX0_reachFurther_66 : decode cX0_reachFurther 66 = .ok (.laload, 1) := by decide +kernel
theorem dX0_reachFurther_67 : decode cX0_reachFurther 67 = .ok (.lcmp, 1) := by decide +kernel
theorem dX0_reachFurther_68 : decode cX0_reachFurther 68 = .ok (.ifCond .le 35, 3) := by decide +kernel
theorem dX0_reachFurther_71 : decode cX0_reachFurther 71 = .ok (.aload_n 0, 1) := by decide +kernel
theorem dX0_reachFurther_72 : decode cX0_reachFurther 72 = .ok (.getfield 27, 3) := by decide +kernel
theorem dX0_reachFurther_75 : decode cX0_reachFurther 75 = .ok (.aload_n 0, 1) := by decide +kernel
theorem dX0_reachFurther_76 : decode cX0_reachFurther 76 = .ok (.getfield 18, 3) := by decide +kernel
theorem dX0_reachFurther_79 : decode cX0_reachFurther 79 = .ok (.iload_n 2, 1) := by decide +kernel
theorem dX0_reachFurther_80 : decode cX0_reachFurther 80 = .ok (.iaload, 1) := by decide +kernel
theorem dX0_reachFurther_81 : decode cX0_reachFurther 81 = .ok (.lload 4, 2) := by decide +kernel
theorem dX0_reachFurther_83 : decode cX0_reachFurther 83 = .ok (.lastore, 1) := by decide +kernel
theorem dX0_reachFurther_84 : decode cX0_reachFurther 84 = .ok (.aload_n 0, 1) := by decide +kernel
theorem dX0_reachFurther_85 : decode cX0_reachFurther 85 = .ok (.getfield 31, 3) := by decide +kernel
theorem dX0_reachFurther_88 : decode cX0_reachFurther 88 = .ok (.aload_n 0, 1) := by decide +kernel
theorem dX0_reachFurther_89 : decode cX0_reachFurther 89 = .ok (.getfield 18, 3) := by decide +kernel
theorem dX0_reachFurther_92 : decode cX0_reachFurther 92 = .ok (.iload_n 2, 1) := by decide +kernel
theorem dX0_reachFurther_93 : decode cX0_reachFurther 93 = .ok (.iaload, 1) := by decide +kernel
theorem dX0_reachFurther_94 : decode cX0_reachFurther 94 = .ok (.iload_n 2, 1) := by decide +kernel
theorem dX0_reachFurther_95 : decode cX0_reachFurther 95 = .ok (.iastore, 1) := by decide +kernel
theorem dX0_reachFurther_96 : decode cX0_reachFurther 96 = .ok (.aload_n 0, 1) := by decide +kernel
theorem dX0_reachFurther_97 : decode cX0_reachFurther 97 = .ok (.getfield 18, 3) := by decide +kernel
theorem dX0_reachFurther_100 : decode cX0_reachFurther 100 = .ok (.iload_n 2, 1) := by decide +kernel
theorem dX0_reachFurther_101 : decode cX0_reachFurther 101 = .ok (.iaload, 1) := by decide +kernel
theorem dX0_reachFurther_102 : decode cX0_reachFurther 102 = .ok (.istore_n 1, 1) := by decide +kernel
theorem dX0_reachFurther_103 : decode cX0_reachFurther 103 = .ok (.iinc 2 1, 3) := by decide +kernel
theorem dX0_reachFurther_106 : decode cX0_reachFurther 106 = .ok (.goto (-101), 3) := by decide +kernel
theorem dX0_reachFurther_109 : decode cX0_reachFurther 109 = .ok (.iload_n 1, 1) := by decide +kernel
theorem dX0_reachFurther_110 : decode cX0_reachFurther 110 = .ok (.ireturn, 1) := by decide +kernel
theorem dX0_takeRing_0 : decode cX0_takeRing 0 = .ok (.lconst 0, 1) := by decide +kernel
theorem dX0_takeRing_1 : decode cX0_takeRing 1 = .ok (.lstore_n 2, 1) := by decide +kernel
theorem dX0_takeRing_2 : decode cX0_takeRing 2 = .ok (.lconst 0, 1) := by decide +kernel
theorem dX0_takeRing_3 : decode cX0_takeRing 3 = .ok (.lstore 4, 2) := by decide +kernel
theorem dX0_takeRing_5 : decode cX0_takeRing 5 = .ok (.iload_n 1, 1) := by decide +kernel
theorem dX0_takeRing_6 : decode cX0_takeRing 6 = .ok (.istore 6, 2) := by decide +kernel
theorem dX0_takeRing_8 : decode cX0_takeRing 8 = .ok (.iconst 0, 1) := by decide +kernel
theorem dX0_takeRing_9 : decode cX0_takeRing 9 = .ok (.istore 7, 2) := by decide +kernel
theorem dX0_takeRing_11 : decode cX0_takeRing 11 = .ok (.iload 7, 2) := by decide +kernel
theorem dX0_takeRing_13 : decode cX0_takeRing 13 = .ok (.aload_n 0, 1) := by decide +kernel
theorem dX0_takeRing_14 : decode cX0_takeRing 14 = .ok (.getfield 67, 3) := by decide +kernel
theorem dX0_takeRing_17 : decode cX0_takeRing 17 = .ok (.if_icmp .ge 67, 3) := by decide +kernel
theorem dX0_takeRing_20 : decode cX0_takeRing 20 = .ok (.aload_n 0, 1) := by decide +kernel
theorem dX0_takeRing_21 : decode cX0_takeRing 21 = .ok (.getfield 31, 3) := by decide +kernel
theorem dX0_takeRing_24 : decode cX0_takeRing 24 = .ok (.iload 6, 2) := by decide +kernel
theorem dX0_takeRing_26 : decode cX0_takeRing 26 = .ok (.iaload, 1) := by decide +kernel
theorem dX0_takeRing_27 : decode cX0_takeRing 27 = .ok (.istore 8, 2) := by decide +kernel
theorem dX0_takeRing_29 : decode cX0_takeRing 29 = .ok (.iload 8, 2) := by decide +kernel
theorem dX0_takeRing_31 : decode cX0_takeRing 31 = .ok (.ifCond .ge 5, 3) := by decide +kernel
theorem dX0_takeRing_34 : decode cX0_takeRing 34 = .ok (.iconst 0, 1) := by decide +kernel
theorem dX0_takeRing_35 : decode cX0_takeRing 35 = .ok (.ireturn, 1) := by decide +kernel
theorem dX0_takeRing_36 : decode cX0_takeRing 36 = .ok (.aload_n 0, 1) := by decide +kernel
theorem dX0_takeRing_37 : decode cX0_takeRing 37 = .ok (.getfield 21, 3) := by decide +kernel
theorem dX0_takeRing_40 : decode cX0_takeRing 40 = .ok (.iload 8, 2) := by decide +kernel
theorem dX0_takeRing_42 : decode cX0_takeRing 42 = .ok (.iaload, 1) := by decide +kernel
theorem dX0_takeRing_43 : decode cX0_takeRing 43 = .ok (.istore 6, 2) := by decide +kernel
theorem dX0_takeRing_45 : decode cX0_takeRing 45 = .ok (.lload_n 2, 1) := by decide +kernel
theorem dX0_takeRing_46 : decode cX0_takeRing 46 = .ok (.aload_n 0, 1) := by decide +kernel
theorem dX0_takeRing_47 : decode cX0_takeRing 47 = .ok (.getfield 15, 3) := by decide +kernel
theorem dX0_takeRing_50 : decode cX0_takeRing 50 = .ok (.iload 6, 2) := by decide +kernel
theorem dX0_takeRing_52 : decode cX0_takeRing 52 = .ok (.iaload, 1) := by decide +kernel
theorem dX0_takeRing_53 : decode cX0_takeRing 53 = .ok (.i2l, 1) := by decide +kernel
theorem dX0_takeRing_54 : decode cX0_takeRing 54 = .ok (.ladd, 1) := by decide +kernel
theorem dX0_takeRing_55 : decode cX0_takeRing 55 = .ok (.lstore_n 2, 1) := by decide +kernel
theorem dX0_takeRing_56 : decode cX0_takeRing 56 = .ok (.lload 4, 2) := by decide +kernel
theorem dX0_takeRing_58 : decode cX0_takeRing 58 = .ok (.aload_n 0, 1) := by decide +kernel
theorem dX0_takeRing_59 : decode cX0_takeRing 59 = .ok (.getfield 24, 3) := by decide +kernel
theorem dX0_takeRing_62 : decode cX0_takeRing 62 = .ok (.iload 8, 2) := by decide +kernel
theorem dX0_takeRing_64 : decode cX0_takeRing 64 = .ok (.iaload, 1) := by decide +kernel
theorem dX0_takeRing_65 : decode cX0_takeRing 65 = .ok (.i2l, 1) := by decide +kernel
theorem dX0_takeRing_66 : decode cX0_takeRing 66 = .ok (.ladd, 1) := by decide +kernel
theorem dX0_takeRing_67 : decode cX0_takeRing 67 = .ok (.lstore 4, 2) := by decide +kernel
theorem dX0_takeRing_69 : decode cX0_takeRing 69 = .ok (.iload 6, 2) := by decide +kernel
theorem dX0_takeRing_71 : decode cX0_takeRing 71 = .ok (.iload_n 1, 1) := by decide +kernel
theorem dX0_takeRing_72 : decode cX0_takeRing 72 = .ok (.if_icmp .ne 6, 3) := by decide +kernel
theorem dX0_takeRing_75 : decode cX0_takeRing 75 = .ok (.goto 9, 3) := by decide +kernel
theorem dX0_takeRing_78 : decode cX0_takeRing 78 = .ok (.iinc 7 1, 3) := by decide +kernel
theorem dX0_takeRing_81 : decode cX0_takeRing 81 = .ok (.goto (-70), 3) := by decide +kernel
theorem dX0_takeRing_84 : decode cX0_takeRing 84 = .ok (.lload 4, 2) := by decide +kernel
theorem dX0_takeRing_86 : decode cX0_takeRing 86 = .ok (.lconst 0, 1) := by decide +kernel
theorem dX0_takeRing_87 : decode cX0_takeRing 87 = .ok (.lcmp, 1) := by decide +kernel
theorem dX0_takeRing_88 : decode cX0_takeRing 88 = .ok (.ifCond .gt 5, 3) := by decide +kernel
theorem dX0_takeRing_91 : decode cX0_takeRing 91 = .ok (.iconst 0, 1) := by decide +kernel
theorem dX0_takeRing_92 : decode cX0_takeRing 92 = .ok (.ireturn, 1) := by decide +kernel
theorem dX0_takeRing_93 : decode cX0_takeRing 93 = .ok (.lload 4, 2) := by decide +kernel
theorem dX0_takeRing_95 : decode cX0_takeRing 95 = .ok (.lload_n 2, 1) := by decide +kernel
theorem dX0_takeRing_96 : decode cX0_takeRing 96 = .ok (.invokestatic 167, 3) := by decide +kernel
theorem dX0_takeRing_99 : decode cX0_takeRing 99 = .ok (.lstore 7, 2) := by decide +kernel
theorem dX0_takeRing_101 : decode cX0_takeRing 101 = .ok (.aload_n 0, 1) := by decide +kernel
theorem dX0_takeRing_102 : decode cX0_takeRing 102 = .ok (.lload_n 2, 1) := by decide +kernel
theorem dX0_takeRing_103 : decode cX0_takeRing 103 = .ok (.lload 7, 2) := by decide +kernel
theorem dX0_takeRing_105 : decode cX0_takeRing 105 = .ok (.ldiv, 1) := by decide +kernel
theorem dX0_takeRing_106 : decode cX0_takeRing 106 = .ok (.putfield 140, 3) := by decide +kernel
theorem dX0_takeRing_109 : decode cX0_takeRing 109 = .ok (.aload_n 0, 1) := by decide +kernel
theorem dX0_takeRing_110 : decode cX0_takeRing 110 = .ok (.lload 4, 2) := by decide +kernel
theorem dX0_takeRing_112 : decode cX0_takeRing 112 = .ok (.lload 7, 2) := by decide +kernel
theorem dX0_takeRing_114 : decode cX0_takeRing 114 = .ok (.ldiv, 1) := by decide +kernel
theorem dX0_takeRing_115 : decode cX0_takeRing 115 = .ok (.putfield 144, 3) := by decide +kernel
theorem dX0_takeRing_118 : decode cX0_takeRing 118 = .ok (.iconst 1, 1) := by decide +kernel
theorem dX0_takeRing_119 : decode cX0_takeRing 119 = .ok (.ireturn, 1) := by decide +kernel
theorem dX1_init_0 : decode cX1_init 0 = .ok (.aload_n 0, 1) := by decide +kernel
theorem dX1_init_1 : decode cX1_init 1 = .ok (.invokespecial 3, 3) := by decide +kernel
theorem dX1_init_4 : decode cX1_init 4 = .ok (.aload_n 0, 1) := by decide +kernel
theorem dX1_init_5 : decode cX1_init 5 = .ok (.bipush 12, 2) := by decide +kernel
theorem dX1_init_7 : decode cX1_init 7 = .ok (.anewarray 9, 3) := by decide +kernel
theorem dX1_init_10 : decode cX1_init 10 = .ok (.putfield 11, 3) := by decide +kernel
theorem dX1_init_13 : decode cX1_init 13 = .ok (.aload_n 0, 1) := by decide +kernel
theorem dX1_init_14 : decode cX1_init 14 = .ok (.bipush 20, 2) := by decide +kernel
theorem dX1_init_16 : decode cX1_init 16 = .ok (.anewarray 17, 3) := by decide +kernel
theorem dX1_init_19 : decode cX1_init 19 = .ok (.putfield 19, 3) := by decide +kernel
theorem dX1_init_22 : decode cX1_init 22 = .ok (.aload_n 0, 1) := by decide +kernel
theorem dX1_init_23 : decode cX1_init 23 = .ok (.bipush (-9), 2) := by decide +kernel
theorem dX1_init_25 : decode cX1_init 25 = .ok (.putfield 23, 3) := by decide +kernel
theorem dX1_init_28 : decode cX1_init 28 = .ok (.aload_n 0, 1) := by decide +kernel
theorem dX1_init_29 : decode cX1_init 29 = .ok (.bipush 12, 2) := by decide +kernel
theorem dX1_init_31 : decode cX1_init 31 = .ok (.newarray .int, 2) := by decide +kernel
theorem dX1_init_33 : decode cX1_init 33 = .ok (.putfield 27, 3) := by decide +kernel
theorem dX1_init_36 : decode cX1_init 36 = .ok (.aload_n 0, 1) := by decide +kernel
theorem dX1_init_37 : decode cX1_init 37 = .ok (.sipush 144, 3) := by decide +kernel
theorem dX1_init_40 : decode cX1_init 40 = .ok (.newarray .long, 2) := by decide +kernel
theorem dX1_init_42 : decode cX1_init 42 = .ok (.putfield 31, 3) := by decide +kernel
theorem dX1_init_45 : decode cX1_init 45 = .ok (.return_, 1) := by decide +kernel
theorem dX1_partAt_0 : decode cX1_partAt 0 = .ok (.iload_n 1, 1) := by decide +kernel
theorem dX1_partAt_1 : decode cX1_partAt 1 = .ok (.ifCond .lt 11, 3) := by decide +kernel
theorem dX1_partAt_4 : decode cX1_partAt 4 = .ok (.iload_n 1, 1) := by decide +kernel
theorem dX1_partAt_5 : decode cX1_partAt 5 = .ok (.aload_n 0, 1) := by decide +kernel
theorem dX1_partAt_6 : decode cX1_partAt 6 = .ok (.getfield 35, 3) := by decide +kernel
theorem dX1_partAt_9 : decode cX1_partAt 9 = .ok (.if_icmp .lt 7, 3) := by decide +kernel
theorem dX1_partAt_12 : decode cX1_partAt 12 = .ok (.aconst_null, 1) := by decide +kernel
theorem dX1_partAt_13 : decode cX1_partAt 13 = .ok (.goto 9, 3) := by decide +kernel
theorem dX1_partAt_16 : decode cX1_partAt 16 = .ok (.aload_n 0, 1) := by decide +kernel
theorem dX1_partAt_17 : decode cX1_partAt 17 = .ok (.getfield 11, 3) := by decide +kernel
theorem dX1_partAt_20 : decode cX1_partAt 20 = .ok (.iload_n 1, 1) := by decide +kernel
theorem dX1_partAt_21 : decode cX1_partAt 21 = .ok (.aaload, 1) := by decide +kernel
theorem dX1_partAt_22 : decode cX1_partAt 22 = .ok (.areturn, 1) := by decide +kernel
theorem dX1_lineAt_0 : decode cX1_lineAt 0 = .ok (.iload_n 1, 1) := by decide +kernel
theorem dX1_lineAt_1 : decode cX1_lineAt 1 = .ok (.ifCond .lt 11, 3) := by decide +kernel
theorem dX1_lineAt_4 : decode cX1_lineAt 4 = .ok (.iload_n 1, 1) := by decide +kernel
theorem dX1_lineAt_5 : decode cX1_lineAt 5 = .ok (.aload_n 0, 1) := by decide +kernel
theorem dX1_lineAt_6 : decode cX1_lineAt 6 = .ok (.getfield 38, 3) := by decide +kernel
theorem dX1_lineAt_9 : decode cX1_lineAt 9 = .ok (.if_icmp .lt 7, 3) := by decide +kernel
theorem dX1_lineAt_12 : decode cX1_lineAt 12 = .ok (.aconst_null, 1) := by decide +kernel
theorem dX1_lineAt_13 : decode cX1_lineAt 13 = .ok (.goto 9, 3) := by decide +kernel
theorem dX1_lineAt_16 : decode cX1_lineAt 16 = .ok (.aload_n 0, 1) := by decide +kernel
theorem dX1_lineAt_17 : decode cX1_lineAt 17 = .ok (.getfield 19, 3) := by decide +kernel
theorem dX1_lineAt_20 : decode cX1_lineAt 20 = .ok (.iload_n 1, 1) := by decide +kernel
theorem dX1_lineAt_21 : decode cX1_lineAt 21 = .ok (.aaload, 1) := by decide +kernel
theorem dX1_lineAt_22 : decode cX1_lineAt 22 = .ok (.areturn, 1) := by decide +kernel
theorem dX1_addPart_0 : decode cX1_addPart 0 = .ok (.aload_n 0, 1) := by decide +kernel
theorem dX1_addPart_1 : decode cX1_addPart 1 = .ok (.getfield 35, 3) := by decide +kernel
theorem dX1_addPart_4 : decode cX1_addPart 4 = .ok (.istore 5, 2) := by decide +kernel
theorem dX1_addPart_6 : decode cX1_addPart 6 = .ok (.aload_n 0, 1) := by decide +kernel
theorem dX1_addPart_7 : decode cX1_addPart 7 = .ok (.getfield 11, 3) := by decide +kernel
theorem dX1_addPart_10 : decode cX1_addPart 10 = .ok (.iload 5, 2) := by decide +kernel
theorem dX1_addPart_12 : decode cX1_addPart 12 = .ok (.new 9, 3) := by decide +kernel
theorem dX1_addPart_15 : decode cX1_addPart 15 = .ok (.dup, 1) := by decide +kernel
theorem dX1_addPart_16 : decode cX1_addPart 16 = .ok (.iload 5, 2) := by decide +kernel
theorem dX1_addPart_18 : decode cX1_addPart 18 = .ok (.iload_n 1, 1) := by decide +kernel
theorem dX1_addPart_19 : decode cX1_addPart 19 = .ok (.lload_n 2, 1) := by decide +kernel
theorem dX1_addPart_20 : decode cX1_addPart 20 = .ok (.iload 4, 2) := by decide +kernel
theorem dX1_addPart_22 : decode cX1_addPart 22 = .ok (.invokespecial 41, 3) := by decide +kernel
theorem dX1_addPart_25 : decode cX1_addPart 25 = .ok (.aastore, 1) := by decide +kernel
theorem dX1_addPart_26 : decode cX1_addPart 26 = .ok (.aload_n 0, 1) := by decide +kernel
theorem dX1_addPart_27 : decode cX1_addPart 27 = .ok (.dup, 1) := by decide +kernel
theorem dX1_addPart_28 : decode cX1_addPart 28 = .ok (.getfield 35, 3) := by decide +kernel
theorem dX1_addPart_31 : decode cX1_addPart 31 = .ok (.iconst 1, 1) := by decide +kernel
theorem dX1_addPart_32 : decode cX1_addPart 32 = .ok (.iadd, 1) := by decide +kernel
theorem dX1_addPart_33 : decode cX1_addPart 33 = .ok (.putfield 35, 3) := by decide +kernel
theorem dX1_addPart_36 : decode cX1_addPart 36 = .ok (.iload 5, 2) := by decide +kernel
theorem dX1_addPart_38 : decode cX1_addPart 38 = .ok (.ireturn, 1) := by decide +kernel
theorem dX1_addLine_0 : decode cX1_addLine 0 = .ok (.aload_n 0, 1) := by decide +kernel
theorem dX1_addLine_1 : decode cX1_addLine 1 = .ok (.getfield 38, 3) := by decide +kernel
theorem dX1_addLine_4 : decode cX1_addLine 4 = .ok (.istore 5, 2) := by decide +kernel
theorem dX1_addLine_6 : decode cX1_addLine 6 = .ok (.new 17, 3) := by decide +kernel
theorem dX1_addLine_9 : decode cX1_addLine 9 = .ok (.dup, 1) := by decide +kernel
theorem dX1_addLine_10 : decode cX1_addLine 10 = .ok (.iload 5, 2) := by decide +kernel
theorem dX1_addLine_12 : decode cX1_addLine 12 = .ok (.aload_n 1, 1) := by decide +kernel
theorem dX1_addLine_13 : decode cX1_addLine 13 = .ok (.iload_n 2, 1) := by decide +kernel
theorem dX1_addLine_14 : decode cX1_addLine 14 = .ok (.aload_n 3, 1) := by decide +kernel
theorem dX1_addLine_15 : decode cX1_addLine 15 = .ok (.iload 4, 2) := by decide +kernel
theorem dX1_addLine_17 : decode cX1_addLine 17 = .ok (.invokespecial 44, 3) := by decide +kernel
theorem dX1_addLine_20 : decode cX1_addLine 20 = .ok (.astore 6, 2) := by decide +kernel
theorem dX1_addLine_22 : decode cX1_addLine 22 = .ok (.aload_n 0, 1) := by decide +kernel
theorem dX1_addLine_23 : decode cX1_addLine 23 = .ok (.getfield 19, 3) := by decide +kernel
theorem dX1_addLine_26 : decode cX1_addLine 26 = .ok (.iload 5, 2) := by decide +kernel
theorem dX1_addLine_28 : decode cX1_addLine 28 = .ok (.aload 6, 2) := by decide +kernel
theorem dX1_addLine_30 : decode cX1_addLine 30 = .ok (.aastore, 1) := by decide +kernel
theorem dX1_addLine_31 : decode cX1_addLine 31 = .ok (.aload_n 0, 1) := by decide +kernel
theorem dX1_addLine_32 : decode cX1_addLine 32 = .ok (.dup, 1) := by decide +kernel
theorem dX1_addLine_33 : decode cX1_addLine 33 = .ok (.getfield 38, 3) := by decide +kernel
theorem dX1_addLine_36 : decode cX1_addLine 36 = .ok (.iconst 1, 1) := by decide +kernel
theorem dX1_addLine_37 : decode cX1_addLine 37 = .ok (.iadd, 1) := by decide +kernel
theorem dX1_addLine_38 : decode cX1_addLine 38 = .ok (.putfield 38, 3) := by decide +kernel
theorem dX1_addLine_41 : decode cX1_addLine 41 = .ok (.aload_n 1, 1) := by decide +kernel
theorem dX1_addLine_42 : decode cX1_addLine 42 = .ok (.getfield 47, 3) := by decide +kernel
theorem dX1_addLine_45 : decode cX1_addLine 45 = .ok (.ifnonnull 12, 3) := by decide +kernel
theorem dX1_addLine_48 : decode cX1_addLine 48 = .ok (.aload_n 1, 1) := by decide +kernel
theorem dX1_addLine_49 : decode cX1_addLine 49 = .ok (.aload 6, 2) := by decide +kernel
theorem dX1_addLine_51 : decode cX1_addLine 51 = .ok (.putfield 51, 3) := by decide +kernel
theorem dX1_addLine_54 : decode cX1_addLine 54 = .ok (.goto 12, 3) := by decide +kernel
theorem dX1_addLine_57 : decode cX1_addLine 57 = .ok (.aload_n 1, 1) := by decide +kernel
theorem dX1_addLine_58 : decode cX1_addLine 58 = .ok (.getfield 47, 3) := by decide +kernel
theorem dX1_addLine_61 : decode cX1_addLine 61 = .ok (.aload 6, 2) := by decide +kernel
theorem dX1_addLine_63 : decode cX1_addLine 63 = .ok (.putfield 54, 3) := by decide +kernel
theorem dX1_addLine_66 : decode cX1_addLine 66 = .ok (.aload_n 1, 1) := by decide +kernel
theorem dX1_addLine_67 : decode cX1_addLine 67 = .ok (.aload 6, 2) := by decide +kernel
theorem dX1_addLine_69 : decode cX1_addLine 69 = .ok (.putfield 47, 3) := by decide +kernel
theorem dX1_addLine_72 : decode cX1_addLine 72 = .ok (.aload_n 3, 1) := by decide +kernel
theorem dX1_addLine_73 : decode cX1_addLine 73 = .ok (.getfield 57, 3) := by decide +kernel
theorem dX1_addLine_76 : decode cX1_addLine 76 = .ok (.ifnonnull 12, 3) := by decide +kernel
theorem dX1_addLine_79 : decode cX1_addLine 79 = .ok (.aload_n 3, 1) := by decide +kernel
theorem dX1_addLine_80 : decode cX1_addLine 80 = .ok (.aload 6, 2) := by decide +kernel
theorem dX1_addLine_82 : decode cX1_addLine 82 = .ok (.putfield 60, 3) := by decide +kernel
theorem dX1_addLine_85 : decode cX1_addLine 85 = .ok (.goto 12, 3) := by decide +kernel
theorem dX1_addLine_88 : decode cX1_addLine 88 = .ok (.aload_n 3, 1) := by decide +kernel
theorem dX1_addLine_89 : decode cX1_addLine 89 = .ok (.getfield 57, 3) := by decide +kernel
theorem dX1_addLine_92 : decode cX1_addLine 92 = .ok (.aload 6, 2) := by decide +kernel
theorem dX1_addLine_94 : decode cX1_addLine 94 = .ok (.putfield 63, 3) := by decide +kernel
theorem dX1_addLine_97 : decode cX1_addLine 97 = .ok (.aload_n 3, 1) := by decide +kernel
theorem dX1_addLine_98 : decode cX1_addLine 98 = .ok (.aload 6, 2) := by decide +kernel
theorem dX1_addLine_100 : decode cX1_addLine 100 = .ok (.putfield 57, 3) := by decide +kernel
theorem dX1_addLine_103 : decode cX1_addLine 103 = .ok (.iload 5, 2) := by decide +kernel
theorem dX1_addLine_105 : decode cX1_addLine 105 = .ok (.ireturn, 1) := by decide +kernel
theorem dX1_hasPhased_0 : decode cX1_hasPhased 0 = .ok (.iconst 0, 1) := by decide +kernel
theorem dX1_hasPhased_1 : decode cX1_hasPhased 1 = .ok (.istore_n 1, 1) := by decide +kernel
theorem dX1_hasPhased_2 : decode cX1_hasPhased 2 = .ok (.iload_n 1, 1) := by decide +kernel
theorem dX1_hasPhased_3 : decode cX1_hasPhased 3 = .ok (.aload_n 0, 1) := by decide +kernel
theorem dX1_hasPhased_4 : decode cX1_hasPhased 4 = .ok (.getfield 35, 3) := by decide +kernel
theorem dX1_hasPhased_7 : decode cX1_hasPhased 7 = .ok (.if_icmp .ge 24, 3) := by decide +kernel
theorem dX1_hasPhased_10 : decode cX1_hasPhased 10 = .ok (.aload_n 0, 1) := by decide +kernel
theorem dX1_hasPhased_11 : decode cX1_hasPhased 11 = .ok (.getfield 11, 3) := by decide +kernel
theorem dX1_hasPhased_14 : decode cX1_hasPhased 14 = .ok (.iload_n 1, 1) := by decide +kernel
theorem dX1_hasPhased_15 : decode cX1_hasPhased 15 = .ok (.aaload, 1) := by decide +kernel
theorem dX1_hasPhased_16 : decode cX1_hasPhased 16 = .ok (.getfield 66, 3) := by decide +kernel
theorem dX1_hasPhased_19 : decode cX1_hasPhased 19 = .ok (.iconst 4, 1) := by decide +kernel
theorem dX1_hasPhased_20 : decode cX1_hasPhased 20 = .ok (.if_icmp .ne 5, 3) := by decide +kernel
theorem dX1_hasPhased_23 : decode cX1_hasPhased 23 = .ok (.iconst 1, 1) := by decide +kernel
theorem dX1_hasPhased_24 : decode cX1_hasPhased 24 = .ok (.ireturn, 1) := by decide +kernel
theorem dX1_hasPhased_25 : decode cX1_hasPhased 25 = .ok (.iinc 1 1, 3) := by decide +kernel
theorem dX1_hasPhased_28 : decode cX1_hasPhased 28 = .ok (.goto (-26), 3) := by decide +kernel
theorem dX1_hasPhased_31 : decode cX1_hasPhased 31 = .ok (.iconst 0, 1) := by decide +kernel
theorem dX1_hasPhased_32 : decode cX1_hasPhased 32 = .ok (.ireturn, 1) := by decide +kernel
theorem dX1_forgetRound_0 : decode cX1_forgetRound 0 = .ok (.aload_n 0, 1) := by decide +kernel
theorem dX1_forgetRound_1 : decode cX1_forgetRound 1 = .ok (.iconst 0, 1) := by decide +kernel
theorem dX1_forgetRound_2 : decode cX1_forgetRound 2 = .ok (.putfield 69, 3) := by decide +kernel
theorem dX1_forgetRound_5 : decode cX1_forgetRound 5 = .ok (.return_, 1) := by decide +kernel
theorem dX1_roundState_0 : decode cX1_roundState 0 = .ok (.aload_n 0, 1) := by decide +kernel
theorem dX1_roundState_1 : decode cX1_roundState 1 = .ok (.getfield 69, 3) := by decide +kernel
theorem dX1_roundState_4 : decode cX1_roundState 4 = .ok (.ifCond .ne 16, 3) := by decide +kernel
theorem dX1_roundState_7 : decode cX1_roundState 7 = .ok (.aload_n 0, 1) := by decide +kernel
theorem dX1_roundState_8 : decode cX1_roundState 8 = .ok (.aload_n 0, 1) := by decide +kernel
theorem dX1_roundState_9 : decode cX1_roundState 9 = .ok (.invokevirtual 73, 3) := by decide +kernel
theorem dX1_roundState_12 : decode cX1_roundState 12 = .ok (.putfield 77, 3) := by decide +kernel
theorem dX1_roundState_15 : decode cX1_roundState 15 = .ok (.aload_n 0, 1) := by decide +kernel
theorem dX1_roundState_16 : decode cX1_roundState 16 = .ok (.iconst 1, 1) := by decide +kernel
theorem dX1_roundState_17 : decode cX1_roundState 17 = .ok (.putfield 69, 3) := by decide +kernel
theorem dX1_roundState_20 : decode cX1_roundState 20 = .ok (.aload_n 0, 1) := by decide +kernel
theorem dX1_roundState_21 : decode cX1_roundState 21 = .ok (.getfield 77, 3) := by decide +kernel
theorem dX1_roundState_24 : decode cX1_roundState 24 = .ok (.ireturn, 1) := by decide +kernel
theorem dX1_findRound_0 : decode cX1_findRound 0 = .ok (.aload_n 0, 1) := by decide +kernel
theorem dX1_findRound_1 : decode cX1_findRound 1 = .ok (.bipush (-9), 2) := by decide +kernel
theorem dX1_findRound_3 : decode cX1_findRound 3 = .ok (.putfield 23, 3) := by decide +kernel
theorem dX1_findRound_6 : decode cX1_findRound 6 = .ok (.aload_n 0, 1) := by decide +kernel
theorem dX1_findRound_7 : decode cX1_findRound 7 = .ok (.iconst 0, 1) := by decide +kernel
theorem dX1_findRound_8 : decode cX1_findRound 8 = .ok (.putfield 80, 3) := by decide +kernel
theorem dX1_findRound_11 : decode cX1_findRound 11 = .ok (.aload_n 0, 1) := by decide +kernel
theorem dX1_findRound_12 : decode cX1_findRound 12 = .ok (.getfield 35, 3) := by decide +kernel
theorem dX1_findRound_15 : decode cX1_findRound 15 = .ok (.ifCond .ne 6, 3) := by decide +kernel
theorem dX1_findRound_18 : decode cX1_findRound 18 = .ok (.bipush (-4), 2) := by decide +kernel
theorem dX1_findRound_20 : decode cX1_findRound 20 = .ok (.ireturn, 1) := by decide +kernel
theorem dX1_findRound_21 : decode cX1_findRound 21 = .ok (.iconst 0, 1) := by decide +kernel
theorem dX1_findRound_22 : decode cX1_findRound 22 = .ok (.istore_n 1, 1) := by decide +kernel
theorem dX1_findRound_23 : decode cX1_findRound 23 = .ok (.iload_n 1, 1) := by decide +kernel
theorem dX1_findRound_24 : decode cX1_findRound 24 = .ok (.aload_n 0, 1) := by decide +kernel
theorem dX1_findRound_25 : decode cX1_findRound 25 = .ok (.getfield 35, 3) := by decide +kernel
theorem dX1_findRound_28 : decode cX1_findRound 28 = .ok (.if_icmp .ge 23, 3) := by decide +kernel
theorem dX1_findRound_31 : decode cX1_findRound 31 = .ok (.aload_n 0, 1) := by decide +kernel
theorem dX1_findRound_32 : decode cX1_findRound 32 = .ok (.getfield 27, 3) := by decide +kernel
theorem dX1_findRound_35 : decode cX1_findRound 35 = .ok (.iload_n 1, 1) := by decide +kernel
theorem dX1_findRound_36 : decode cX1_findRound 36 = .ok (.iload_n 1, 1) := by decide +kernel
theorem dX1_findRound_37 : decode cX1_findRound 37 = .ok (.iastore, 1) := by decide +kernel
theorem dX1_findRound_38 : decode cX1_findRound 38 = .ok (.aload_n 0, 1) := by decide +kernel
theorem dX1_findRound_39 : decode cX1_findRound 39 = .ok (.iload_n 1, 1) := by decide +kernel
theorem dX1_findRound_40 : decode cX1_findRound 40 = .ok (.iload_n 1, 1) := by decide +kernel
theorem dX1_findRound_41 : decode cX1_findRound 41 = .ok (.lconst 1, 1) := by decide +kernel
theorem dX1_findRound_42 : decode cX1_findRound 42 = .ok (.invokevirtual 83, 3) := by decide +kernel
theorem dX1_findRound_45 : decode cX1_findRound 45 = .ok (.iinc 1 1, 3) := by decide +kernel
theorem dX1_findRound_48 : decode cX1_findRound 48 = .ok (.goto (-25), 3) := by decide +kernel
theorem dX1_findRound_51 : decode cX1_findRound 51 = .ok (.iconst 0, 1) := by decide +kernel
theorem dX1_findRound_52 : decode cX1_findRound 52 = .ok (.istore_n 1, 1) := by decide +kernel
theorem dX1_findRound_53 : decode cX1_findRound 53 = .ok (.iload_n 1, 1) := by decide +kernel
theorem dX1_findRound_54 : decode cX1_findRound 54 = .ok (.aload_n 0, 1) := by decide +kernel
theorem dX1_findRound_55 : decode cX1_findRound 55 = .ok (.getfield 38, 3) := by decide +kernel
theorem dX1_findRound_58 : decode cX1_findRound 58 = .ok (.if_icmp .ge 37, 3) := by decide +kernel
theorem dX1_findRound_61 : decode cX1_findRound 61 = .ok (.aload_n 0, 1) := by decide +kernel
theorem dX1_findRound_62 : decode cX1_findRound 62 = .ok (.aload_n 0, 1) := by decide +kernel
theorem dX1_findRound_63 : decode cX1_findRound 63 = .ok (.getfield 19, 3) := by decide +kernel
theorem dX1_findRound_66 : decode cX1_findRound 66 = .ok (.iload_n 1, 1) := by decide +kernel
theorem dX1_findRound_67 : decode cX1_findRound 67 = .ok (.aaload, 1) := by decide +kernel
theorem dX1_findRound_68 : decode cX1_findRound 68 = .ok (.invokevirtual 87, 3) := by decide +kernel
theorem dX1_findRound_71 : decode cX1_findRound 71 = .ok (.istore_n 2, 1) := by decide +kernel
theorem dX1_findRound_72 : decode cX1_findRound 72 = .ok (.iload_n 2, 1) := by decide +kernel
theorem dX1_findRound_73 : decode cX1_findRound 73 = .ok (.bipush (-9), 2) := by decide +kernel
theorem dX1_findRound_75 : decode cX1_findRound 75 = .ok (.if_icmp .ne 8, 3) := by decide +kernel
theorem dX1_findRound_78 : decode cX1_findRound 78 = .ok (.aload_n 0, 1) := by decide +kernel
theorem dX1_findRound_79 : decode cX1_findRound 79 = .ok (.iload_n 1, 1) := by decide +kernel
theorem dX1_findRound_80 : decode cX1_findRound 80 = .ok (.putfield 23, 3) := by decide +kernel
theorem dX1_findRound_83 : decode cX1_findRound 83 = .ok (.iload_n 2, 1) := by decide +kernel
theorem dX1_findRound_84 : decode cX1_findRound 84 = .ok (.ifCond .eq 5, 3) := by decide +kernel
theorem dX1_findRound_87 : decode cX1_findRound 87 = .ok (.iload_n 2, 1) := by decide +kernel
theorem dX1_findRound_88 : decode cX1_findRound 88 = .ok (.ireturn, 1) := by decide +kernel
theorem dX1_findRound_89 : decode cX1_findRound 89 = .ok (.iinc 1 1, 3) := by decide +kernel
theorem dX1_findRound_92 : decode cX1_findRound 92 = .ok (.goto (-39), 3) := by decide +kernel
theorem dX1_findRound_95 : decode cX1_findRound 95 = .ok (.aload_n 0, 1) := by decide +kernel
theorem dX1_findRound_96 : decode cX1_findRound 96 = .ok (.invokevirtual 91, 3) := by decide +kernel
theorem dX1_findRound_99 : decode cX1_findRound 99 = .ok (.ireturn, 1) := by decide +kernel
theorem dX1_tie_0 : decode cX1_tie 0 = .ok (.aload_n 1, 1) := by decide +kernel
theorem dX1_tie_1 : decode cX1_tie 1 = .ok (.getfield 94, 3) := by decide +kernel
theorem dX1_tie_4 : decode cX1_tie 4 = .ok (.invokestatic 97, 3) := by decide +kernel
theorem dX1_tie_7 : decode cX1_tie 7 = .ok (.istore_n 2, 1) := by decide +kernel
theorem dX1_tie_8 : decode cX1_tie 8 = .ok (.aload_n 1, 1) := by decide +kernel
theorem dX1_tie_9 : decode cX1_tie 9 = .ok (.getfield 101, 3) := by decide +kernel
theorem dX1_tie_12 : decode cX1_tie 12 = .ok (.invokestatic 97, 3) := by decide +kernel
theorem dX1_tie_15 : decode cX1_tie 15 = .ok (.istore_n 3, 1) := by decide +kernel
theorem dX1_tie_16 : decode cX1_tie 16 = .ok (.iload_n 2, 1) := by decide +kernel
theorem dX1_tie_17 : decode cX1_tie 17 = .ok (.ifCond .ne 9, 3) := by decide +kernel
theorem dX1_tie_20 : decode cX1_tie 20 = .ok (.iload_n 3, 1) := by decide +kernel
theorem dX1_tie_21 : decode cX1_tie 21 = .ok (.ifCond .ne 5, 3) := by decide +kernel
theorem dX1_tie_24 : decode cX1_tie 24 = .ok (.iconst 0, 1) := by decide +kernel
theorem dX1_tie_25 : decode cX1_tie 25 = .ok (.ireturn, 1) := by decide +kernel
theorem dX1_tie_26 : decode cX1_tie 26 = .ok (.iload_n 2, 1) := by decide +kernel
theorem dX1_tie_27 : decode cX1_tie 27 = .ok (.ifCond .eq 7, 3) := by decide +kernel
theorem dX1_tie_30 : decode cX1_tie 30 = .ok (.iload_n 3, 1) := by decide +kernel
theorem dX1_tie_31 : decode cX1_tie 31 = .ok (.ifCond .ne 6, 3) := by decide +kernel
theorem dX1_tie_34 : decode cX1_tie 34 = .ok (.bipush (-9), 2) := by decide +kernel
theorem dX1_tie_36 : decode cX1_tie 36 = .ok (.ireturn, 1) := by decide +kernel
theorem dX1_tie_37 : decode cX1_tie 37 = .ok (.aload_n 1, 1) := by decide +kernel
theorem dX1_tie_38 : decode cX1_tie 38 = .ok (.getfield 104, 3) := by decide +kernel
theorem dX1_tie_41 : decode cX1_tie 41 = .ok (.getfield 108, 3) := by decide +kernel
theorem dX1_tie_44 : decode cX1_tie 44 = .ok (.istore 4, 2) := by decide +kernel
theorem dX1_tie_46 : decode cX1_tie 46 = .ok (.aload_n 1, 1) := by decide +kernel
theorem dX1_tie_47 : decode cX1_tie 47 = .ok (.getfield 111, 3) := by decide +kernel
theorem dX1_tie_50 : decode cX1_tie 50 = .ok (.getfield 108, 3) := by decide +kernel
theorem dX1_tie_53 : decode cX1_tie 53 = .ok (.istore 5, 2) := by decide +kernel
theorem dX1_tie_55 : decode cX1_tie 55 = .ok (.aload_n 0, 1) := by decide +kernel
theorem dX1_tie_56 : decode cX1_tie 56 = .ok (.getfield 27, 3) := by decide +kernel
theorem dX1_tie_59 : decode cX1_tie 59 = .ok (.iload 4, 2) := by decide +kernel
theorem dX1_tie_61 : decode cX1_tie 61 = .ok (.iaload, 1) := by decide +kernel
theorem dX1_tie_62 : decode cX1_tie 62 = .ok (.aload_n 0, 1) := by decide +kernel
theorem dX1_tie_63 : decode cX1_tie 63 = .ok (.getfield 27, 3) := by decide +kernel
theorem dX1_tie_66 : decode cX1_tie 66 = .ok (.iload 5, 2) := by decide +kernel
theorem dX1_tie_68 : decode cX1_tie 68 = .ok (.iaload, 1) := by decide +kernel
theorem dX1_tie_69 : decode cX1_tie 69 = .ok (.if_icmp .ne 36, 3) := by decide +kernel
theorem dX1_tie_72 : decode cX1_tie 72 = .ok (.aload_n 0, 1) := by decide +kernel
theorem dX1_tie_73 : decode cX1_tie 73 = .ok (.iload 4, 2) := by decide +kernel
theorem dX1_tie_75 : decode cX1_tie 75 = .ok (.iload 5, 2) := by decide +kernel
theorem dX1_tie_77 : decode cX1_tie 77 = .ok (.invokevirtual 114, 3) := by decide +kernel
theorem dX1_tie_80 : decode cX1_tie 80 = .ok (.iload_n 2, 1) := by decide +kernel
theorem dX1_tie_81 : decode cX1_tie 81 = .ok (.i2l, 1) := by decide +kernel
theorem dX1_tie_82 : decode cX1_tie 82 = .ok (.lmul, 1) := by decide +kernel
theorem dX1_tie_83 : decode cX1_tie 83 = .ok (.aload_n 0, 1) := by decide +kernel
theorem dX1_tie_84 : decode cX1_tie 84 = .ok (.iload 5, 2) := by decide +kernel
theorem dX1_tie_86 : decode cX1_tie 86 = .ok (.iload 4, 2) := by decide +kernel
theorem dX1_tie_88 : decode cX1_tie 88 = .ok (.invokevirtual 114, 3) := by decide +kernel
theorem dX1_tie_91 : decode cX1_tie 91 = .ok (.iload_n 3, 1) := by decide +kernel
theorem dX1_tie_92 : decode cX1_tie 92 = .ok (.i2l, 1) := by decide +kernel
theorem dX1_tie_93 : decode cX1_tie 93 = .ok (.lmul, 1) := by decide +kernel
theorem dX1_tie_94 : decode cX1_tie 94 = .ok (.lcmp, 1) := by decide +kernel
theorem dX1_tie_95 : decode cX1_tie 95 = .ok (.ifCond .ne 7, 3) := by decide +kernel
theorem dX1_tie_98 : decode cX1_tie 98 = .ok (.iconst 0, 1) := by decide +kernel
theorem dX1_tie_99 : decode cX1_tie 99 = .ok (.goto 5, 3) := by decide +kernel
theorem dX1_tie_102 : decode cX1_tie 102 = .ok (.bipush (-9), 2) := by decide +kernel
theorem dX1_tie_104 : decode cX1_tie 104 = .ok (.ireturn, 1) := by decide +kernel
theorem dX1_tie_105 : decode cX1_tie 105 = .ok (.aload_n 0, 1) := by decide +kernel
theorem dX1_tie_106 : decode cX1_tie 106 = .ok (.iload 4, 2) := by decide +kernel
theorem dX1_tie_108 : decode cX1_tie 108 = .ok (.iload 5, 2) := by decide +kernel
theorem dX1_tie_110 : decode cX1_tie 110 = .ok (.iload_n 2, 1) := by decide +kernel
theorem dX1_tie_111 : decode cX1_tie 111 = .ok (.iload_n 3, 1) := by decide +kernel
theorem dX1_tie_112 : decode cX1_tie 112 = .ok (.invokevirtual 118, 3) := by decide +kernel
theorem dX1_tie_115 : decode cX1_tie 115 = .ok (.ireturn, 1) := by decide +kernel
theorem dX1_join_0 : decode cX1_join 0 = .ok (.aload_n 0, 1) := by decide +kernel
theorem dX1_join_1 : decode cX1_join 1 = .ok (.getfield 27, 3) := by decide +kernel
theorem dX1_join_4 : decode cX1_join 4 = .ok (.iload_n 2, 1) := by decide +kernel
theorem dX1_join_5 : decode cX1_join 5 = .ok (.iaload, 1) := by decide +kernel
theorem dX1_join_6 : decode cX1_join 6 = .ok (.istore 5, 2) := by decide +kernel
theorem dX1_join_8 : decode cX1_join 8 = .ok (.iconst 0, 1) := by decide +kernel
theorem dX1_join_9 : decode cX1_join 9 = .ok (.istore 6, 2) := by decide +kernel
theorem dX1_join_11 : decode cX1_join 11 = .ok (.iload 6, 2) := by decide +kernel
theorem dX1_join_13 : decode cX1_join 13 = .ok (.aload_n 0, 1) := by decide +kernel
theorem dX1_join_14 : decode cX1_join 14 = .ok (.getfield 35, 3) := by decide +kernel
theorem dX1_join_17 : decode cX1_join 17 = .ok (.if_icmp .ge 158, 3) := by decide +kernel
theorem dX1_join_20 : decode cX1_join 20 = .ok (.iconst 0, 1) := by decide +kernel
theorem dX1_join_21 : decode cX1_join 21 = .ok (.istore 7, 2) := by decide +kernel
theorem dX1_join_23 : decode cX1_join 23 = .ok (.iload 7, 2) := by decide +kernel
theorem dX1_join_25 : decode cX1_join 25 = .ok (.aload_n 0, 1) := by decide +kernel
theorem dX1_join_26 : decode cX1_join 26 = .ok (.getfield 35, 3) := by decide +kernel
theorem dX1_join_29 : decode cX1_join 29 = .ok (.if_icmp .ge 140, 3) := by decide +kernel
theorem dX1_join_32 : decode cX1_join 32 = .ok (.aload_n 0, 1) := by decide +kernel
theorem dX1_join_33 : decode cX1_join 33 = .ok (.getfield 27, 3) := by decide +kernel
theorem dX1_join_36 : decode cX1_join 36 = .ok (.iload 6, 2) := by decide +kernel
theorem dX1_join_38 : decode cX1_join 38 = .ok (.iaload, 1) := by decide +kernel
theorem dX1_join_39 : decode cX1_join 39 = .ok (.aload_n 0, 1) := by decide +kernel
theorem dX1_join_40 : decode cX1_join 40 = .ok (.getfield 27, 3) := by decide +kernel
theorem dX1_join_43 : decode cX1_join 43 = .ok (.iload_n 1, 1) := by decide +kernel
theorem dX1_join_44 : decode cX1_join 44 = .ok (.iaload, 1) := by decide +kernel
theorem dX1_join_45 : decode cX1_join 45 = .ok (.if_icmp .ne 118, 3) := by decide +kernel
theorem dX1_join_48 : decode cX1_join 48 = .ok (.aload_n 0, 1) := by decide +kernel
theorem dX1_join_49 : decode cX1_join 49 = .ok (.getfield 27, 3) := by decide +kernel
theorem dX1_join_52 : decode cX1_join 52 = .ok (.iload 7, 2) := by decide +kernel
theorem dX1_join_54 : decode cX1_join 54 = .ok (.iaload, 1) := by decide +kernel
theorem dX1_join_55 : decode cX1_join 55 = .ok (.iload 5, 2) := by decide +kernel
theorem dX1_join_57 : decode cX1_join 57 = .ok (.if_icmp .ne 106, 3) := by decide +kernel
theorem dX1_join_60 : decode cX1_join 60 = .ok (.aload_n 0, 1) := by decide +kernel
theorem dX1_join_61 : decode cX1_join 61 = .ok (.iload 6, 2) := by decide +kernel
theorem dX1_join_63 : decode cX1_join 63 = .ok (.iload_n 1, 1) := by decide +kernel
theorem dX1_join_64 : decode cX1_join 64 = .ok (.invokevirtual 114, 3) := by decide +kernel
theorem dX1_join_67 : decode cX1_join 67 = .ok (.iload 4, 2) := by decide +kernel
theorem dX1_join_69 : decode cX1_join 69 = .ok (.i2l, 1) := by decide +kernel
theorem dX1_join_70 : decode cX1_join 70 = .ok (.lmul, 1) := by decide +kernel
theorem dX1_join_71 : decode cX1_join 71 = .ok (.aload_n 0, 1) := by decide +kernel
theorem dX1_join_72 : decode cX1_join 72 = .ok (.iload_n 2, 1) := by decide +kernel
theorem dX1_join_73 : decode cX1_join 73 = .ok (.iload 7, 2) := by decide +kernel
theorem dX1_join_75 : decode cX1_join 75 = .ok (.invokevirtual 114, 3) := by decide +kernel
theorem dX1_join_78 : decode cX1_join 78 = .ok (.lmul, 1) := by decide +kernel
theorem dX1_join_79 : decode cX1_join 79 = .ok (.lstore 8, 2) := by decide +kernel
theorem dX1_join_81 : decode cX1_join 81 = .ok (.aload_n 0, 1) := by decide +kernel
theorem dX1_join_82 : decode cX1_join 82 = .ok (.iload_n 1, 1) := by decide +kernel
theorem dX1_join_83 : decode cX1_join 83 = .ok (.iload 6, 2) := by decide +kernel
theorem dX1_join_85 : decode cX1_join 85 = .ok (.invokevirtual 114, 3) := by decide +kernel
theorem dX1_join_88 : decode cX1_join 88 = .ok (.iload_n 3, 1) := by decide +kernel
theorem dX1_join_89 : decode cX1_join 89 = .ok (.i2l, 1) := by decide +kernel
theorem dX1_join_90 : decode cX1_join 90 = .ok (.lmul, 1) := by decide +kernel
theorem dX1_join_91 : decode cX1_join 91 = .ok (.aload_n 0, 1) := by decide +kernel
theorem dX1_join_92 : decode cX1_join 92 = .ok (.iload 7, 2) := by decide +kernel
theorem dX1_join_94 : decode cX1_join 94 = .ok (.iload_n 2, 1) := by decide +kernel
theorem dX1_join_95 : decode cX1_join 95 = .ok (.invokevirtual 114, 3) := by decide +kernel
theorem dX1_join_98 : decode cX1_join 98 = .ok (.lmul, 1) := by decide +kernel
theorem dX1_join_99 : decode cX1_join 99 = .ok (.lstore 10, 2) := by decide +kernel
theorem dX1_join_101 : decode cX1_join 101 = .ok (.lload 8, 2) := by decide +kernel
theorem dX1_join_103 : decode cX1_join 103 = .ok (.lload 10, 2) := by decide +kernel
theorem dX1_join_105 : decode cX1_join 105 = .ok (.invokestatic 122, 3) := by decide +kernel
theorem dX1_join_108 : decode cX1_join 108 = .ok (.lstore 12, 2) := by decide +kernel
theorem dX1_join_110 : decode cX1_join 110 = .ok (.lload 8, 2) := by decide +kernel
theorem dX1_join_112 : decode cX1_join 112 = .ok (.lload 12, 2) := by decide +kernel
theorem dX1_join_114 : decode cX1_join 114 = .ok (.ldiv, 1) := by decide +kernel
theorem dX1_join_115 : decode cX1_join 115 = .ok (.ldc2_w 126, 3) := by decide +kernel
theorem dX1_join_118 : decode cX1_join 118 = .ok (.lcmp, 1) := by decide +kernel
theorem dX1_join_119 : decode cX1_join 119 = .ok (.ifCond .gt 15, 3) := by decide +kernel
theorem dX1_join_122 : decode cX1_join 122 = .ok (.lload 10, 2) := by decide +kernel
theorem dX1_join_124 : decode cX1_join 124 = .ok (.lload 12, 2) := by decide +kernel
theorem dX1_join_126 : decode cX1_join 126 = .ok (.ldiv, 1) := by decide +kernel
theorem dX1_join_127 : decode cX1_join 127 = .ok (.ldc2_w 126, 3) := by decide +kernel
theorem dX1_join_130 : decode cX1_join 130 = .ok (.lcmp, 1) := by decide +kernel
theorem dX1_join_131 : decode cX1_join 131 = .ok (.ifCond .le 6, 3) := by decide +kernel
theorem dX1_join_134 : decode cX1_join 134 = .ok (.bipush (-6), 2) := by decide +kernel
theorem dX1_join_136 : decode cX1_join 136 = .ok (.ireturn, 1) := by decide +kernel
theorem dX1_join_137 : decode cX1_join 137 = .ok (.aload_n 0, 1) := by decide +kernel
theorem dX1_join_138 : decode cX1_join 138 = .ok (.iload 6, 2) := by decide +kernel
theorem dX1_join_140 : decode cX1_join 140 = .ok (.iload 7, 2) := by decide +kernel
theorem dX1_join_142 : decode cX1_join 142 = .ok (.lload 8, 2) := by decide +kernel
theorem dX1_join_144 : decode cX1_join 144 = .ok (.lload 12, 2) := by decide +kernel
theorem dX1_join_146 : decode cX1_join 146 = .ok (.ldiv, 1) := by decide +kernel
theorem dX1_join_147 : decode cX1_join 147 = .ok (.invokevirtual 83, 3) := by decide +kernel
theorem dX1_join_150 : decode cX1_join 150 = .ok (.aload_n 0, 1) := by decide +kernel
theorem dX1_join_151 : decode cX1_join 151 = .ok (.iload 7, 2) := by decide +kernel
theorem dX1_join_153 : decode cX1_join 153 = .ok (.iload 6, 2) := by decide +kernel
theorem dX1_join_155 : decode cX1_join 155 = .ok (.lload 10, 2) := by decide +kernel
theorem dX1_join_157 : decode cX1_join 157 = .ok (.lload 12, 2) := by decide +kernel
theorem dX1_join_159 : decode cX1_join 159 = .ok (.ldiv, 1) := by decide +kernel
theorem dX1_join_160 : decode cX1_join 160 = .ok (.invokevirtual 83, 3) := by decide +kernel
theorem dX1_join_163 : decode cX1_join 163 = .ok (.iinc 7 1, 3) := by decide +kernel
theorem dX1_join_166 : decode cX1_join 166 = .ok (.goto (-143), 3) := by decide +kernel
theorem dX1_join_169 : decode cX1_join 169 = .ok (.iinc 6 1, 3) := by decide +kernel
theorem dX1_join_172 : decode cX1_join 172 = .ok (.goto (-161), 3) := by decide +kernel
theorem dX1_join_175 : decode cX1_join 175 = .ok (.iconst 0, 1) := by decide +kernel
theorem dX1_join_176 : decode cX1_join 176 = .ok (.istore 6, 2) := by decide +kernel
theorem dX1_join_178 : decode cX1_join 178 = .ok (.iload 6, 2) := by decide +kernel
theorem dX1_join_180 : decode cX1_join 180 = .ok (.aload_n 0, 1) := by decide +kernel
theorem dX1_join_181 : decode cX1_join 181 = .ok (.getfield 35, 3) := by decide +kernel
theorem dX1_join_184 : decode cX1_join 184 = .ok (.if_icmp .ge 34, 3) := by decide +kernel
theorem dX1_join_187 : decode cX1_join 187 = .ok (.aload_n 0, 1) := by decide +kernel
theorem dX1_join_188 : decode cX1_join 188 = .ok (.getfield 27, 3) := by decide +kernel
theorem dX1_join_191 : decode cX1_join 191 = .ok (.iload 6, 2) := by decide +kernel
theorem dX1_join_193 : decode cX1_join 193 = .ok (.iaload, 1) := by decide +kernel
theorem dX1_join_194 : decode cX1_join 194 = .ok (.iload 5, 2) := by decide +kernel
theorem dX1_join_196 : decode cX1_join 196 = .ok (.if_icmp .ne 16, 3) := by decide +kernel
theorem dX1_join_199 : decode cX1_join 199 = .ok (.aload_n 0, 1) := by decide +kernel
theorem dX1_join_200 : decode cX1_join 200 = .ok (.getfield 27, 3) := by decide +kernel
theorem dX1_join_203 : decode cX1_join 203 = .ok (.iload 6, 2) := by decide +kernel
theorem dX1_join_205 : decode cX1_join 205 = .ok (.aload_n 0, 1) := by decide +kernel
theorem dX1_join_206 : decode cX1_join 206 = .ok (.getfield 27, 3) := by decide +kernel
theorem dX1_join_209 : decode cX1_join 209 = .ok (.iload_n 1, 1) := by decide +kernel
theorem dX1_join_210 : decode cX1_join 210 = .ok (.iaload, 1) := by decide +kernel
theorem dX1_join_211 : decode cX1_join 211 = .ok (.iastore, 1) := by decide +kernel
theorem dX1_join_212 : decode cX1_join 212 = .ok (.iinc 6 1, 3) := by decide +kernel
theorem dX1_join_215 : decode cX1_join 215 = .ok (.goto (-37), 3) := by decide +kernel
theorem dX1_join_218 : decode cX1_join 218 = .ok (.iconst 0, 1) := by decide +kernel
theorem dX1_join_219 : decode cX1_join 219 = .ok (.ireturn, 1) := by decide +kernel
theorem dX1_countFirings_0 : decode cX1_countFirings 0 = .ok (.iconst 0, 1) := by decide +kernel
theorem dX1_countFirings_1 : decode cX1_countFirings 1 = .ok (.istore_n 1, 1) := by decide +kernel
theorem dX1_countFirings_2 : decode cX1_countFirings 2 = .ok (.iload_n 1, 1) := by decide +kernel
theorem dX1_countFirings_3 : decode cX1_countFirings 3 = .ok (.aload_n 0, 1) := by decide +kernel
theorem dX1_countFirings_4 : decode cX1_countFirings 4 = .ok (.getfield 35, 3) := by decide +kernel
theorem dX1_countFirings_7 : decode cX1_countFirings 7 = .ok (.if_icmp .ge 45, 3) := by decide +kernel
theorem dX1_countFirings_10 : decode cX1_countFirings 10 = .ok (.aload_n 0, 1) := by decide +kernel
theorem dX1_countFirings_11 : decode cX1_countFirings 11 = .ok (.getfield 27, 3) := by decide +kernel
theorem dX1_countFirings_14 : decode cX1_countFirings 14 = .ok (.iload_n 1, 1) := by decide +kernel
theorem dX1_countFirings_15 : decode cX1_countFirings 15 = .ok (.iaload, 1) := by decide +kernel
theorem dX1_countFirings_16 : decode cX1_countFirings 16 = .ok (.iload_n 1, 1) := by decide +kernel
theorem dX1_countFirings_17 : decode cX1_countFirings 17 = .ok (.if_icmp .ne 29, 3) := by decide +kernel
theorem dX1_countFirings_20 : decode cX1_countFirings 20 = .ok (.aload_n 0, 1) := by decide +kernel
theorem dX1_countFirings_21 : decode cX1_countFirings 21 = .ok (.iload_n 1, 1) := by decide +kernel
theorem dX1_countFirings_22 : decode cX1_countFirings 22 = .ok (.invokevirtual 128, 3) := by decide +kernel
theorem dX1_countFirings_25 : decode cX1_countFirings 25 = .ok (.lstore_n 2, 1) := by decide +kernel
theorem dX1_countFirings_26 : decode cX1_countFirings 26 = .ok (.lload_n 2, 1) := by decide +kernel
theorem dX1_countFirings_27 : decode cX1_countFirings 27 = .ok (.ldc2_w 132, 3) := by decide +kernel
theorem dX1_countFirings_30 : decode cX1_countFirings 30 = .ok (.lcmp, 1) := by decide +kernel
theorem dX1_countFirings_31 : decode cX1_countFirings 31 = .ok (.ifCond .gt 12, 3) := by decide +kernel
theorem dX1_countFirings_34 : decode cX1_countFirings 34 = .ok (.aload_n 0, 1) := by decide +kernel
theorem dX1_countFirings_35 : decode cX1_countFirings 35 = .ok (.iload_n 1, 1) := by decide +kernel
theorem dX1_countFirings_36 : decode cX1_countFirings 36 = .ok (.lload_n 2, 1) := by decide +kernel
theorem dX1_countFirings_37 : decode cX1_countFirings 37 = .ok (.invokevirtual 134, 3) := by decide +kernel
theorem dX1_countFirings_40 : decode cX1_countFirings 40 = .ok (.ifCond .ne 6, 3) := by decide +kernel
theorem dX1_countFirings_43 : decode cX1_countFirings 43 = .ok (.bipush (-6), 2) := by decide +kernel
theorem dX1_countFirings_45 : decode cX1_countFirings 45 = .ok (.ireturn, 1) := by decide +kernel
theorem dX1_countFirings_46 : decode cX1_countFirings 46 = .ok (.iinc 1 1, 3) := by decide +kernel
theorem dX1_countFirings_49 : decode cX1_countFirings 49 = .ok (.goto (-47), 3) := by decide +kernel
theorem dX1_countFirings_52 : decode cX1_countFirings 52 = .ok (.aload_n 0, 1) := by decide +kernel
theorem dX1_countFirings_53 : decode cX1_countFirings 53 = .ok (.getfield 80, 3) := by decide +kernel
theorem dX1_countFirings_56 : decode cX1_countFirings 56 = .ok (.sipush 2000, 3) := by decide +kernel
theorem dX1_countFirings_59 : decode cX1_countFirings 59 = .ok (.if_icmp .le 8, 3) := by decide +kernel
theorem dX1_countFirings_62 : decode cX1_countFirings 62 = .ok (.bipush (-6), 2) := by decide +kernel
theorem dX1_countFirings_64 : decode cX1_countFirings 64 = .ok (.goto 4, 3) := by decide +kernel
theorem dX1_countFirings_67 : decode cX1_countFirings 67 = .ok (.iconst 0, 1) := by decide +kernel
theorem dX1_countFirings_68 : decode cX1_countFirings 68 = .ok (.ireturn, 1) := by decide +kernel
theorem dX1_fewestRows_0 : decode cX1_fewestRows 0 = .ok (.lconst 1, 1) := by decide +kernel
theorem dX1_fewestRows_1 : decode cX1_fewestRows 1 = .ok (.lstore_n 2, 1) := by decide +kernel
theorem dX1_fewestRows_2 : decode cX1_fewestRows 2 = .ok (.iconst 0, 1) := by decide +kernel
theorem dX1_fewestRows_3 : decode cX1_fewestRows 3 = .ok (.istore 4, 2) := by decide +kernel
theorem dX1_fewestRows_5 : decode cX1_fewestRows 5 = .ok (.iload 4, 2) := by decide +kernel
theorem dX1_fewestRows_7 : decode cX1_fewestRows 7 = .ok (.aload_n 0, 1) := by decide +kernel
theorem dX1_fewestRows_8 : decode cX1_fewestRows 8 = .ok (.getfield 35, 3) := by decide +kernel
theorem dX1_fewestRows_11 : decode cX1_fewestRows 11 = .ok (.if_icmp .ge 49, 3) := by decide +kernel
theorem dX1_fewestRows_14 : decode cX1_fewestRows 14 = .ok (.lload_n 2, 1) := by decide +kernel
theorem dX1_fewestRows_15 : decode cX1_fewestRows 15 = .ok (.ldc2_w 132, 3) := by decide +kernel
theorem dX1_fewestRows_18 : decode cX1_fewestRows 18 = .ok (.lcmp, 1) := by decide +kernel
theorem dX1_fewestRows_19 : decode cX1_fewestRows 19 = .ok (.ifCond .gt 41, 3) := by decide +kernel
theorem dX1_fewestRows_22 : decode cX1_fewestRows 22 = .ok (.aload_n 0, 1) := by decide +kernel
theorem dX1_fewestRows_23 : decode cX1_fewestRows 23 = .ok (.getfield 27, 3) := by decide +kernel
theorem dX1_fewestRows_26 : decode cX1_fewestRows 26 = .ok (.iload 4, 2) := by decide +kernel
theorem dX1_fewestRows_28 : decode cX1_fewestRows 28 = .ok (.iaload, 1) := by decide +kernel
theorem dX1_fewestRows_29 : decode cX1_fewestRows 29 = .ok (.iload_n 1, 1) := by decide +kernel
theorem dX1_fewestRows_30 : decode cX1_fewestRows 30 = .ok (.if_icmp .ne 24, 3) := by decide +kernel
theorem dX1_fewestRows_33 : decode cX1_fewestRows 33 = .ok (.aload_n 0, 1) := by decide +kernel
theorem dX1_fewestRows_34 : decode cX1_fewestRows 34 = .ok (.iload_n 1, 1) := by decide +kernel
theorem dX1_fewestRows_35 : decode cX1_fewestRows 35 = .ok (.iload 4, 2) := by decide +kernel
theorem dX1_fewestRows_37 : decode cX1_fewestRows 37 = .ok (.invokevirtual 114, 3) := by decide +kernel
theorem dX1_fewestRows_40 : decode cX1_fewestRows 40 = .ok (.lstore 5, 2) := by decide +kernel
theorem dX1_fewestRows_42 : decode cX1_fewestRows 42 = .ok (.lload_n 2, 1) := by decide +kernel
theorem dX1_fewestRows_43 : decode cX1_fewestRows 43 = .ok (.lload_n 2, 1) := by decide +kernel
theorem dX1_fewestRows_44 : decode cX1_fewestRows 44 = .ok (.lload 5, 2) := by decide +kernel
theorem dX1_fewestRows_46 : decode cX1_fewestRows 46 = .ok (.invokestatic 122, 3) := by decide +kernel
theorem dX1_fewestRows_49 : decode cX1_fewestRows 49 = .ok (.ldiv, 1) := by decide +kernel
theorem dX1_fewestRows_50 : decode cX1_fewestRows 50 = .ok (.lload 5, 2) := by decide +kernel
theorem dX1_fewestRows_52 : decode cX1_fewestRows 52 = .ok (.lmul, 1) := by decide +kernel
theorem dX1_fewestRows_53 : decode cX1_fewestRows 53 = .ok (.lstore_n 2, 1) := by decide +kernel
theorem dX1_fewestRows_54 : decode cX1_fewestRows 54 = .ok (.iinc 4 1, 3) := by decide +kernel
theorem dX1_fewestRows_57 : decode cX1_fewestRows 57 = .ok (.goto (-52), 3) := by decide +kernel
theorem dX1_fewestRows_60 : decode cX1_fewestRows 60 = .ok (.lload_n 2, 1) := by decide +kernel
theorem dX1_fewestRows_61 : decode cX1_fewestRows 61 = .ok (.lreturn, 1) := by decide +kernel
theorem dX1_spreadRows_0 : decode cX1_spreadRows 0 = .ok (.iconst 0, 1) := by decide +kernel
theorem dX1_spreadRows_1 : decode cX1_spreadRows 1 = .ok (.istore 4, 2) := by decide +kernel
theorem dX1_spreadRows_3 : decode cX1_spreadRows 3 = .ok (.iload 4, 2) := by decide +kernel
theorem dX1_spreadRows_5 : decode cX1_spreadRows 5 = .ok (.aload_n 0, 1) := by decide +kernel
theorem dX1_spreadRows_6 : decode cX1_spreadRows 6 = .ok (.getfield 35, 3) := by decide +kernel
theorem dX1_spreadRows_9 : decode cX1_spreadRows 9 = .ok (.if_icmp .ge 91, 3) := by decide +kernel
theorem dX1_spreadRows_12 : decode cX1_spreadRows 12 = .ok (.aload_n 0, 1) := by decide +kernel
theorem dX1_spreadRows_13 : decode cX1_spreadRows 13 = .ok (.getfield 27, 3) := by decide +kernel
theorem dX1_spreadRows_16 : decode cX1_spreadRows 16 = .ok (.iload 4, 2) := by decide +kernel
theorem dX1_spreadRows_18 : decode cX1_spreadRows 18 = .ok (.iaload, 1) := by decide +kernel
theorem dX1_spreadRows_19 : decode cX1_spreadRows 19 = .ok (.iload_n 1, 1) := by decide +kernel
theorem dX1_spreadRows_20 : decode cX1_spreadRows 20 = .ok (.if_icmp .ne 74, 3) := by decide +kernel
theorem dX1_spreadRows_23 : decode cX1_spreadRows 23 = .ok (.lload_n 2, 1) := by decide +kernel
theorem dX1_spreadRows_24 : decode cX1_spreadRows 24 = .ok (.aload_n 0, 1) := by decide +kernel
theorem dX1_spreadRows_25 : decode cX1_spreadRows 25 = .ok (.iload 4, 2) := by decide +kernel
theorem dX1_spreadRows_27 : decode cX1_spreadRows 27 = .ok (.iload_n 1, 1) := by decide +kernel
theorem dX1_spreadRows_28 : decode cX1_spreadRows 28 = .ok (.invokevirtual 114, 3) := by decide +kernel
theorem dX1_spreadRows_31 : decode cX1_spreadRows 31 = .ok (.lmul, 1) := by decide +kernel
theorem dX1_spreadRows_32 : decode cX1_spreadRows 32 = .ok (.aload_n 0, 1) := by decide +kernel
theorem dX1_spreadRows_33 : decode cX1_spreadRows 33 = .ok (.iload_n 1, 1) := by decide +kernel
theorem dX1_spreadRows_34 : decode cX1_spreadRows 34 = .ok (.iload 4, 2) := by decide +kernel
theorem dX1_spreadRows_36 : decode cX1_spreadRows 36 = .ok (.invokevirtual 114, 3) := by decide +kernel
theorem dX1_spreadRows_39 : decode cX1_spreadRows 39 = .ok (.lconst 1, 1) := by decide +kernel
theorem dX1_spreadRows_40 : decode cX1_spreadRows 40 = .ok (.invokestatic 138, 3) := by decide +kernel
theorem dX1_spreadRows_43 : decode cX1_spreadRows 43 = .ok (.ldiv, 1) := by decide +kernel
theorem dX1_spreadRows_44 : decode cX1_spreadRows 44 = .ok (.aload_n 0, 1) := by decide +kernel
theorem dX1_spreadRows_45 : decode cX1_spreadRows 45 = .ok (.getfield 11, 3) := by decide +kernel
theorem dX1_spreadRows_48 : decode cX1_spreadRows 48 = .ok (.iload 4, 2) := by decide +kernel
theorem dX1_spreadRows_50 : decode cX1_spreadRows 50 = .ok (.aaload, 1) := by decide +kernel
theorem dX1_spreadRows_51 : decode cX1_spreadRows 51 = .ok (.getfield 143, 3) := by decide +kernel
theorem dX1_spreadRows_54 : decode cX1_spreadRows 54 = .ok (.i2l, 1) := by decide +kernel
theorem dX1_spreadRows_55 : decode cX1_spreadRows 55 = .ok (.lmul, 1) := by decide +kernel
theorem dX1_spreadRows_56 : decode cX1_spreadRows 56 = .ok (.lstore 5, 2) := by decide +kernel
theorem dX1_spreadRows_58 : decode cX1_spreadRows 58 = .ok (.lload 5, 2) := by decide +kernel
theorem dX1_spreadRows_60 : decode cX1_spreadRows 60 = .ok (.ldc2_w 132, 3) := by decide +kernel
theorem dX1_spreadRows_63 : decode cX1_spreadRows 63 = .ok (.lcmp, 1) := by decide +kernel
theorem dX1_spreadRows_64 : decode cX1_spreadRows 64 = .ok (.ifCond .le 5, 3) := by decide +kernel
theorem dX1_spreadRows_67 : decode cX1_spreadRows 67 = .ok (.iconst 0, 1) := by decide +kernel
theorem dX1_spreadRows_68 : decode cX1_spreadRows 68 = .ok (.ireturn, 1) := by decide +kernel
theorem dX1_spreadRows_69 : decode cX1_spreadRows 69 = .ok (.aload_n 0, 1) := by decide +kernel
theorem dX1_spreadRows_70 : decode cX1_spreadRows 70 = .ok (.getfield 11, 3) := by decide +kernel
theorem dX1_spreadRows_73 : decode cX1_spreadRows 73 = .ok (.iload 4, 2) := by decide +kernel
theorem dX1_spreadRows_75 : decode cX1_spreadRows 75 = .ok (.aaload, 1) := by decide +kernel
theorem dX1_spreadRows_76 : decode cX1_spreadRows 76 = .ok (.lload 5, 2) := by decide +kernel
theorem dX1_spreadRows_78 : decode cX1_spreadRows 78 = .ok (.l2i, 1) := by decide +kernel
theorem dX1_spreadRows_79 : decode cX1_spreadRows 79 = .ok (.putfield 146, 3) := by decide +kernel
theorem dX1_spreadRows_82 : decode cX1_spreadRows 82 = .ok (.aload_n 0, 1) := by decide +kernel
theorem dX1_spreadRows_83 : decode cX1_spreadRows 83 = .ok (.dup, 1) := by decide +kernel
theorem dX1_spreadRows_84 : decode cX1_spreadRows 84 = .ok (.getfield 80, 3) := by decide +kernel
theorem dX1_spreadRows_87 : decode cX1_spreadRows 87 = .ok (.lload 5, 2) := by decide +kernel
theorem dX1_spreadRows_89 : decode cX1_spreadRows 89 = .ok (.l2i, 1) := by decide +kernel
theorem dX1_spreadRows_90 : decode cX1_spreadRows 90 = .ok (.iadd, 1) := by decide +kernel
theorem dX1_spreadRows_91 : decode cX1_spreadRows 91 = .ok (.putfield 80, 3) := by decide +kernel
theorem dX1_spreadRows_94 : decode cX1_spreadRows 94 = .ok (.iinc 4 1, 3) := by decide +kernel
theorem dX1_spreadRows_97 : decode cX1_spreadRows 97 = .ok (.goto (-94), 3) := by decide +kernel
theorem dX1_spreadRows_100 : decode cX1_spreadRows 100 = .ok (.iconst 1, 1) := by decide +kernel
theorem dX1_spreadRows_101 : decode cX1_spreadRows 101 = .ok (.ireturn, 1) := by decide +kernel
theorem dX1_proportion_0 : decode cX1_proportion 0 = .ok (.aload_n 0, 1) := by decide +kernel
theorem dX1_proportion_1 : decode cX1_proportion 1 = .ok (.getfield 31, 3) := by decide +kernel
theorem dX1_proportion_4 : decode cX1_proportion 4 = .ok (.iload_n 1, 1) := by decide +kernel
theorem dX1_proportion_5 : decode cX1_proportion 5 = .ok (.bipush 12, 2) := by decide +kernel
theorem dX1_proportion_7 : decode cX1_proportion 7 = .ok (.imul, 1) := by decide +kernel
theorem dX1_proportion_8 : decode cX1_proportion 8 = .ok (.iload_n 2, 1) := by decide +kernel
theorem dX1_proportion_9 : decode cX1_proportion 9 = .ok (.iadd, 1) := by decide +kernel
theorem dX1_proportion_10 : decode cX1_proportion 10 = .ok (.laload, 1) := by decide +kernel
theorem dX1_proportion_11 : decode cX1_proportion 11 = .ok (.lreturn, 1) := by decide +kernel
theorem dX1_setProportion_0 : decode cX1_setProportion 0 = .ok (.aload_n 0, 1) := by decide +kernel
theorem dX1_setProportion_1 : decode cX1_setProportion 1 = .ok (.getfield 31, 3) := by decide +kernel
theorem dX1_setProportion_4 : decode cX1_setProportion 4 = .ok (.iload_n 1, 1) := by decide +kernel
theorem dX1_setProportion_5 : decode cX1_setProportion 5 = .ok (.bipush 12, 2) := by decide +kernel
theorem dX1_setProportion_7 : decode cX1_setProportion 7 = .ok (.imul, 1) := by decide +kernel
theorem dX1_setProportion_8 : decode cX1_setProportion 8 = .ok (.iload_n 2, 1) := by decide +kernel
theorem dX1_setProportion_9 : decode cX1_setProportion 9 = .ok (.iadd, 1) := by decide +kernel
theorem dX1_setProportion_10 : decode cX1_setProportion 10 = .ok (.lload_n 3, 1) := by decide +kernel
theorem dX1_setProportion_11 : decode cX1_setProportion 11 = .ok (.lastore, 1) := by decide +kernel
theorem dX1_setProportion_12 : decode cX1_setProportion 12 = .ok (.return_, 1) := by decide +kernel
theorem dX2_init_0 : decode cX2_init 0 = .ok (.aload_n 0, 1) := by decide +kernel
theorem dX2_init_1 : decode cX2_init 1 = .ok (.invokespecial 3, 3) := by decide +kernel
theorem dX2_init_4 : decode cX2_init 4 = .ok (.aload_n 0, 1) := by decide +kernel
theorem dX2_init_5 : decode cX2_init 5 = .ok (.bipush 20, 2) := by decide +kernel
theorem dX2_init_7 : decode cX2_init 7 = .ok (.newarray .int, 2) := by decide +kernel
theorem dX2_init_9 : decode cX2_init 9 = .ok (.putfield 9, 3) := by decide +kernel
theorem dX2_init_12 : decode cX2_init 12 = .ok (.aload_n 0, 1) := by decide +kernel
theorem dX2_init_13 : decode cX2_init 13 = .ok (.aload_n 1, 1) := by decide +kernel
theorem dX2_init_14 : decode cX2_init 14 = .ok (.putfield 15, 3) := by decide +kernel
theorem dX2_init_17 : decode cX2_init 17 = .ok (.aload_n 0, 1) := by decide +kernel
theorem dX2_init_18 : decode cX2_init 18 = .ok (.aload_n 2, 1) := by decide +kernel
theorem dX2_init_19 : decode cX2_init 19 = .ok (.putfield 19, 3) := by decide +kernel
theorem dX2_init_22 : decode cX2_init 22 = .ok (.return_, 1) := by decide +kernel
theorem dX2_forget_0 : decode cX2_forget 0 = .ok (.aload_n 0, 1) := by decide +kernel
theorem dX2_forget_1 : decode cX2_forget 1 = .ok (.iconst 0, 1) := by decide +kernel
theorem dX2_forget_2 : decode cX2_forget 2 = .ok (.putfield 23, 3) := by decide +kernel
theorem dX2_forget_5 : decode cX2_forget 5 = .ok (.aload_n 0, 1) := by decide +kernel
theorem dX2_forget_6 : decode cX2_forget 6 = .ok (.iconst 0, 1) := by decide +kernel
theorem dX2_forget_7 : decode cX2_forget 7 = .ok (.putfield 27, 3) := by decide +kernel
theorem dX2_forget_10 : decode cX2_forget 10 = .ok (.return_, 1) := by decide +kernel
theorem dX2_isStuck_0 : decode cX2_isStuck 0 = .ok (.aload_n 0, 1) := by decide +kernel
theorem dX2_isStuck_1 : decode cX2_isStuck 1 = .ok (.getfield 23, 3) := by decide +kernel
theorem dX2_isStuck_4 : decode cX2_isStuck 4 = .ok (.ifCond .ne 24, 3) := by decide +kernel
theorem dX2_isStuck_7 : decode cX2_isStuck 7 = .ok (.aload_n 0, 1) := by decide +kernel
theorem dX2_isStuck_8 : decode cX2_isStuck 8 = .ok (.getfield 9, 3) := by decide +kernel
theorem dX2_isStuck_11 : decode cX2_isStuck 11 = .ok (.iconst 0, 1) := by decide +kernel
theorem dX2_isStuck_12 : decode cX2_isStuck 12 = .ok (.invokestatic 30, 3) := by decide +kernel
theorem dX2_isStuck_15 : decode cX2_isStuck 15 = .ok (.aload_n 0, 1) := by decide +kernel
theorem dX2_isStuck_16 : decode cX2_isStuck 16 = .ok (.aload_n 0, 1) := by decide +kernel
theorem dX2_isStuck_17 : decode cX2_isStuck 17 = .ok (.invokevirtual 36, 3) := by decide +kernel
theorem dX2_isStuck_20 : decode cX2_isStuck 20 = .ok (.putfield 40, 3) := by decide +kernel
theorem dX2_isStuck_23 : decode cX2_isStuck 23 = .ok (.aload_n 0, 1) := by decide +kernel
theorem dX2_isStuck_24 : decode cX2_isStuck 24 = .ok (.iconst 1, 1) := by decide +kernel
theorem dX2_isStuck_25 : decode cX2_isStuck 25 = .ok (.putfield 23, 3) := by decide +kernel
theorem dX2_isStuck_28 : decode cX2_isStuck 28 = .ok (.aload_n 0, 1) := by decide +kernel
theorem dX2_isStuck_29 : decode cX2_isStuck 29 = .ok (.getfield 40, 3) := by decide +kernel
theorem dX2_isStuck_32 : decode cX2_isStuck 32 = .ok (.ireturn, 1) := by decide +kernel
theorem dX2_moreOn_0 : decode cX2_moreOn 0 = .ok (.aload_n 0, 1) := by decide +kernel
theorem dX2_moreOn_1 : decode cX2_moreOn 1 = .ok (.invokevirtual 43, 3) := by decide +kernel
theorem dX2_moreOn_4 : decode cX2_moreOn 4 = .ok (.ifCond .eq 43, 3) := by decide +kernel
theorem dX2_moreOn_7 : decode cX2_moreOn 7 = .ok (.aload_n 0, 1) := by decide +kernel
theorem dX2_moreOn_8 : decode cX2_moreOn 8 = .ok (.getfield 27, 3) := by decide +kernel
theorem dX2_moreOn_11 : decode cX2_moreOn 11 = .ok (.ifCond .ne 36, 3) := by decide +kernel
theorem dX2_moreOn_14 : decode cX2_moreOn 14 = .ok (.aload_n 0, 1) := by decide +kernel
theorem dX2_moreOn_15 : decode cX2_moreOn 15 = .ok (.invokevirtual 45, 3) := by decide +kernel
theorem dX2_moreOn_18 : decode cX2_moreOn 18 = .ok (.iconst 0, 1) := by decide +kernel
theorem dX2_moreOn_19 : decode cX2_moreOn 19 = .ok (.istore_n 2, 1) := by decide +kernel
theorem dX2_moreOn_20 : decode cX2_moreOn 20 = .ok (.iload_n 2, 1) := by decide +kernel
theorem dX2_moreOn_21 : decode cX2_moreOn 21 = .ok (.aload_n 0, 1) := by decide +kernel
theorem dX2_moreOn_22 : decode cX2_moreOn 22 = .ok (.getfield 15, 3) := by decide +kernel
theorem dX2_moreOn_25 : decode cX2_moreOn 25 = .ok (.getfield 47, 3) := by decide +kernel
theorem dX2_moreOn_28 : decode cX2_moreOn 28 = .ok (.if_icmp .ge 14, 3) := by decide +kernel
theorem dX2_moreOn_31 : decode cX2_moreOn 31 = .ok (.aload_n 0, 1) := by decide +kernel
theorem dX2_moreOn_32 : decode cX2_moreOn 32 = .ok (.iload_n 2, 1) := by decide +kernel
theorem dX2_moreOn_33 : decode cX2_moreOn 33 = .ok (.invokevirtual 53, 3) := by decide +kernel
theorem dX2_moreOn_36 : decode cX2_moreOn 36 = .ok (.iinc 2 1, 3) := by decide +kernel
theorem dX2_moreOn_39 : decode cX2_moreOn 39 = .ok (.goto (-19), 3) := by decide +kernel
theorem dX2_moreOn_42 : decode cX2_moreOn 42 = .ok (.aload_n 0, 1) := by decide +kernel
theorem dX2_moreOn_43 : decode cX2_moreOn 43 = .ok (.iconst 1, 1) := by decide +kernel
theorem dX2_moreOn_44 : decode cX2_moreOn 44 = .ok (.putfield 27, 3) := by decide +kernel
theorem dX2_moreOn_47 : decode cX2_moreOn 47 = .ok (.aload_n 0, 1) := by decide +kernel
theorem dX2_moreOn_48 : decode cX2_moreOn 48 = .ok (.getfield 9, 3) := by decide +kernel
theorem dX2_moreOn_51 : decode cX2_moreOn 51 = .ok (.iload_n 1, 1) := by decide +kernel
theorem dX2_moreOn_52 : decode cX2_moreOn 52 = .ok (.iaload, 1) := by decide +kernel
theorem dX2_moreOn_53 : decode cX2_moreOn 53 = .ok (.ireturn, 1) := by decide +kernel
theorem dX2_sticks_0 : decode cX2_sticks 0 = .ok (.aload_n 0, 1) := by decide +kernel
theorem dX2_sticks_1 : decode cX2_sticks 1 = .ok (.getfield 19, 3) := by decide +kernel
theorem dX2_sticks_4 : decode cX2_sticks 4 = .ok (.invokevirtual 57, 3) := by decide +kernel
theorem dX2_sticks_7 : decode cX2_sticks 7 = .ok (.iconst 0, 1) := by decide +kernel
theorem dX2_sticks_8 : decode cX2_sticks 8 = .ok (.istore_n 1, 1) := by decide +kernel
theorem dX2_sticks_9 : decode cX2_sticks 9 = .ok (.iload_n 1, 1) := by decide +kernel
theorem dX2_sticks_10 : decode cX2_sticks 10 = .ok (.aload_n 0, 1) := by decide +kernel
theorem dX2_sticks_11 : decode cX2_sticks 11 = .ok (.getfield 15, 3) := by decide +kernel
theorem dX2_sticks_14 : decode cX2_sticks 14 = .ok (.getfield 47, 3) := by decide +kernel
theorem dX2_sticks_17 : decode cX2_sticks 17 = .ok (.if_icmp .ge 27, 3) := by decide +kernel
theorem dX2_sticks_20 : decode cX2_sticks 20 = .ok (.aload_n 0, 1) := by decide +kernel
theorem dX2_sticks_21 : decode cX2_sticks 21 = .ok (.getfield 19, 3) := by decide +kernel
theorem dX2_sticks_24 : decode cX2_sticks 24 = .ok (.getfield 62, 3) := by decide +kernel
theorem dX2_sticks_27 : decode cX2_sticks 27 = .ok (.iload_n 1, 1) := by decide +kernel
theorem dX2_sticks_28 : decode cX2_sticks 28 = .ok (.dup2, 1) := by decide +kernel
theorem dX2_sticks_29 : decode cX2_sticks 29 = .ok (.iaload, 1) := by decide +kernel
theorem dX2_sticks_30 : decode cX2_sticks 30 = .ok (.aload_n 0, 1) := by decide +kernel
theorem dX2_sticks_31 : decode cX2_sticks 31 = .ok (.getfield 9, 3) := by decide +kernel
theorem dX2_sticks_34 : decode cX2_sticks 34 = .ok (.iload_n 1, 1) := by decide +kernel
theorem dX2_sticks_35 : decode cX2_sticks 35 = .ok (.iaload, 1) := by decide +kernel
theorem dX2_sticks_36 : decode cX2_sticks 36 = .ok (.iadd, 1) := by decide +kernel
theorem dX2_sticks_37 : decode cX2_sticks 37 = .ok (.iastore, 1) := by decide +kernel
theorem dX2_sticks_38 : decode cX2_sticks 38 = .ok (.iinc 1 1, 3) := by decide +kernel
theorem dX2_sticks_41 : decode cX2_sticks 41 = .ok (.goto (-32), 3) := by decide +kernel
theorem dX2_sticks_44 : decode cX2_sticks 44 = .ok (.aload_n 0, 1) := by decide +kernel
theorem dX2_sticks_45 : decode cX2_sticks 45 = .ok (.getfield 19, 3) := by decide +kernel
theorem dX2_sticks_48 : decode cX2_sticks 48 = .ok (.invokevirtual 65, 3) := by decide +kernel
theorem dX2_sticks_51 : decode cX2_sticks 51 = .ok (.aload_n 0, 1) := by decide +kernel
theorem dX2_sticks_52 : decode cX2_sticks 52 = .ok (.getfield 19, 3) := by decide +kernel
theorem dX2_sticks_55 : decode cX2_sticks 55 = .ok (.getfield 68, 3) := by decide +kernel
theorem dX2_sticks_58 : decode cX2_sticks 58 = .ok (.ifCond .le 7, 3) := by decide +kernel
theorem dX2_sticks_61 : decode cX2_sticks 61 = .ok (.iconst 1, 1) := by decide +kernel
theorem dX2_sticks_62 : decode cX2_sticks 62 = .ok (.goto 4, 3) := by decide +kernel
theorem dX2_sticks_65 : decode cX2_sticks 65 = .ok (.iconst 0, 1) := by decide +kernel
theorem dX2_sticks_66 : decode cX2_sticks 66 = .ok (.ireturn, 1) := by decide +kernel
theorem dX2_fill_0 : decode cX2_fill 0 = .ok (.aload_n 0, 1) := by decide +kernel
theorem dX2_fill_1 : decode cX2_fill 1 = .ok (.getfield 19, 3) := by decide +kernel
theorem dX2_fill_4 : decode cX2_fill 4 = .ok (.invokevirtual 57, 3) := by decide +kernel
theorem dX2_fill_7 : decode cX2_fill 7 = .ok (.aload_n 0, 1) := by decide +kernel
theorem dX2_fill_8 : decode cX2_fill 8 = .ok (.getfield 19, 3) := by decide +kernel
theorem dX2_fill_11 : decode cX2_fill 11 = .ok (.invokevirtual 65, 3) := by decide +kernel
theorem dX2_fill_14 : decode cX2_fill 14 = .ok (.iconst 0, 1) := by decide +kernel
theorem dX2_fill_15 : decode cX2_fill 15 = .ok (.istore_n 1, 1) := by decide +kernel
theorem dX2_fill_16 : decode cX2_fill 16 = .ok (.iload_n 1, 1) := by decide +kernel
theorem dX2_fill_17 : decode cX2_fill 17 = .ok (.sipush 2000, 3) := by decide +kernel
theorem dX2_fill_20 : decode cX2_fill 20 = .ok (.if_icmp .gt 129, 3) := by decide +kernel
theorem dX2_fill_23 : decode cX2_fill 23 = .ok (.aload_n 0, 1) := by decide +kernel
theorem dX2_fill_24 : decode cX2_fill 24 = .ok (.getfield 19, 3) := by decide +kernel
theorem dX2_fill_27 : decode cX2_fill 27 = .ok (.getfield 68, 3) := by decide +kernel
theorem dX2_fill_30 : decode cX2_fill 30 = .ok (.ifCond .le 119, 3) := by decide +kernel
theorem dX2_fill_33 : decode cX2_fill 33 = .ok (.aload_n 0, 1) := by decide +kernel
theorem dX2_fill_34 : decode cX2_fill 34 = .ok (.invokevirtual 71, 3) := by decide +kernel
theorem dX2_fill_37 : decode cX2_fill 37 = .ok (.astore_n 2, 1) := by decide +kernel
theorem dX2_fill_38 : decode cX2_fill 38 = .ok (.aload_n 2, 1) := by decide +kernel
theorem dX2_fill_39 : decode cX2_fill 39 = .ok (.ifnonnull 4, 3) := by decide +kernel
theorem dX2_fill_42 : decode cX2_fill 42 = .ok (.return_, 1) := by decide +kernel
theorem dX2_fill_43 : decode cX2_fill 43 = .ok (.aload_n 0, 1) := by decide +kernel
theorem dX2_fill_44 : decode cX2_fill 44 = .ok (.getfield 19, 3) := by decide +kernel
theorem dX2_fill_47 : decode cX2_fill 47 = .ok (.getfield 75, 3) := by decide +kernel
theorem dX2_fill_50 : decode cX2_fill 50 = .ok (.aload_n 2, 1) := by decide +kernel
theorem dX2_fill_51 : decode cX2_fill 51 = .ok (.getfield 78, 3) := by decide +kernel
theorem dX2_fill_54 : decode cX2_fill 54 = .ok (.iaload, 1) := by decide +kernel
theorem dX2_fill_55 : decode cX2_fill 55 = .ok (.istore_n 3, 1) := by decide +kernel
theorem dX2_fill_56 : decode cX2_fill 56 = .ok (.aload_n 2, 1) := by decide +kernel
theorem dX2_fill_57 : decode cX2_fill 57 = .ok (.getfield 83, 3) := by decide +kernel
theorem dX2_fill_60 : decode cX2_fill 60 = .ok (.astore 4, 2) := by decide +kernel
theorem dX2_fill_62 : decode cX2_fill 62 = .ok (.aload 4, 2) := by decide +kernel
theorem dX2_fill_64 : decode cX2_fill 64 = .ok (.ifnull 72, 3) := by decide +kernel
theorem dX2_fill_67 : decode cX2_fill 67 = .ok (.iconst 0, 1) := by decide +kernel
theorem dX2_fill_68 : decode cX2_fill 68 = .ok (.aload 4, 2) := by decide +kernel
theorem dX2_fill_70 : decode cX2_fill 70 = .ok (.iload_n 3, 1) := by decide +kernel
theorem dX2_fill_71 : decode cX2_fill 71 = .ok (.invokevirtual 87, 3) := by decide +kernel
theorem dX2_fill_74 : decode cX2_fill 74 = .ok (.aload_n 0, 1) := by decide +kernel
theorem dX2_fill_75 : decode cX2_fill 75 = .ok (.getfield 19, 3) := by decide +kernel
theorem dX2_fill_78 : decode cX2_fill 78 = .ok (.getfield 62, 3) := by decide +kernel
theorem dX2_fill_81 : decode cX2_fill 81 = .ok (.aload 4, 2) := by decide +kernel
theorem dX2_fill_83 : decode cX2_fill 83 = .ok (.getfield 93, 3) := by decide +kernel
theorem dX2_fill_86 : decode cX2_fill 86 = .ok (.iaload, 1) := by decide +kernel
theorem dX2_fill_87 : decode cX2_fill 87 = .ok (.isub, 1) := by decide +kernel
theorem dX2_fill_88 : decode cX2_fill 88 = .ok (.invokestatic 94, 3) := by decide +kernel
theorem dX2_fill_91 : decode cX2_fill 91 = .ok (.istore 5, 2) := by decide +kernel
theorem dX2_fill_93 : decode cX2_fill 93 = .ok (.aload_n 0, 1) := by decide +kernel
theorem dX2_fill_94 : decode cX2_fill 94 = .ok (.getfield 9, 3) := by decide +kernel
theorem dX2_fill_97 : decode cX2_fill 97 = .ok (.aload 4, 2) := by decide +kernel
theorem dX2_fill_99 : decode cX2_fill 99 = .ok (.getfield 93, 3) := by decide +kernel
theorem dX2_fill_102 : decode cX2_fill 102 = .ok (.dup2, 1) := by decide +kernel
theorem dX2_fill_103 : decode cX2_fill 103 = .ok (.iaload, 1) := by decide +kernel
theorem dX2_fill_104 : decode cX2_fill 104 = .ok (.iload 5, 2) := by decide +kernel
theorem dX2_fill_106 : decode cX2_fill 106 = .ok (.iadd, 1) := by decide +kernel
theorem dX2_fill_107 : decode cX2_fill 107 = .ok (.iastore, 1) := by decide +kernel
theorem dX2_fill_108 : decode cX2_fill 108 = .ok (.aload_n 0, 1) := by decide +kernel
theorem dX2_fill_109 : decode cX2_fill 109 = .ok (.getfield 19, 3) := by decide +kernel
theorem dX2_fill_112 : decode cX2_fill 112 = .ok (.getfield 62, 3) := by decide +kernel
theorem dX2_fill_115 : decode cX2_fill 115 = .ok (.aload 4, 2) := by decide +kernel
theorem dX2_fill_117 : decode cX2_fill 117 = .ok (.getfield 93, 3) := by decide +kernel
theorem dX2_fill_120 : decode cX2_fill 120 = .ok (.dup2, 1) := by decide +kernel
theorem dX2_fill_121 : decode cX2_fill 121 = .ok (.iaload, 1) := by decide +kernel
theorem dX2_fill_122 : decode cX2_fill 122 = .ok (.iload 5, 2) := by decide +kernel
theorem dX2_fill_124 : decode cX2_fill 124 = .ok (.iadd, 1) := by decide +kernel
theorem dX2_fill_125 : decode cX2_fill 125 = .ok (.iastore, 1) := by decide +kernel
theorem dX2_fill_126 : decode cX2_fill 126 = .ok (.aload 4, 2) := by decide +kernel
theorem dX2_fill_128 : decode cX2_fill 128 = .ok (.getfield 100, 3) := by decide +kernel
theorem dX2_fill_131 : decode cX2_fill 131 = .ok (.astore 4, 2) := by decide +kernel
theorem dX2_fill_133 : decode cX2_fill 133 = .ok (.goto (-71), 3) := by decide +kernel
theorem dX2_fill_136 : decode cX2_fill 136 = .ok (.aload_n 0, 1) := by decide +kernel
theorem dX2_fill_137 : decode cX2_fill 137 = .ok (.getfield 19, 3) := by decide +kernel
theorem dX2_fill_140 : decode cX2_fill 140 = .ok (.invokevirtual 65, 3) := by decide +kernel
theorem dX2_fill_143 : decode cX2_fill 143 = .ok (.iinc 1 1, 3) := by decide +kernel
theorem dX2_fill_146 : decode cX2_fill 146 = .ok (.goto (-130), 3) := by decide +kernel
theorem dX2_fill_149 : decode cX2_fill 149 = .ok (.return_, 1) := by decide +kernel
theorem dX2_leastLeft_0 : decode cX2_leastLeft 0 = .ok (.iconst 0, 1) := by decide +kernel
theorem dX2_leastLeft_1 : decode cX2_leastLeft 1 = .ok (.istore_n 1, 1) := by decide +kernel
theorem dX2_leastLeft_2 : decode cX2_leastLeft 2 = .ok (.iload_n 1, 1) := by decide +kernel
theorem dX2_leastLeft_3 : decode cX2_leastLeft 3 = .ok (.aload_n 0, 1) := by decide +kernel
theorem dX2_leastLeft_4 : decode cX2_leastLeft 4 = .ok (.getfield 15, 3) := by decide +kernel
theorem dX2_leastLeft_7 : decode cX2_leastLeft 7 = .ok (.getfield 103, 3) := by decide +kernel
theorem dX2_leastLeft_10 : decode cX2_leastLeft 10 = .ok (.if_icmp .ge 31, 3) := by decide +kernel
theorem dX2_leastLeft_13 : decode cX2_leastLeft 13 = .ok (.aload_n 0, 1) := by decide +kernel
theorem dX2_leastLeft_14 : decode cX2_leastLeft 14 = .ok (.getfield 19, 3) := by decide +kernel
theorem dX2_leastLeft_17 : decode cX2_leastLeft 17 = .ok (.getfield 106, 3) := by decide +kernel
theorem dX2_leastLeft_20 : decode cX2_leastLeft 20 = .ok (.iload_n 1, 1) := by decide +kernel
theorem dX2_leastLeft_21 : decode cX2_leastLeft 21 = .ok (.iaload, 1) := by decide +kernel
theorem dX2_leastLeft_22 : decode cX2_leastLeft 22 = .ok (.ifCond .le 13, 3) := by decide +kernel
theorem dX2_leastLeft_25 : decode cX2_leastLeft 25 = .ok (.aload_n 0, 1) := by decide +kernel
theorem dX2_leastLeft_26 : decode cX2_leastLeft 26 = .ok (.getfield 15, 3) := by decide +kernel
theorem dX2_leastLeft_29 : decode cX2_leastLeft 29 = .ok (.getfield 109, 3) := by decide +kernel
theorem dX2_leastLeft_32 : decode cX2_leastLeft 32 = .ok (.iload_n 1, 1) := by decide +kernel
theorem dX2_leastLeft_33 : decode cX2_leastLeft 33 = .ok (.aaload, 1) := by decide +kernel
theorem dX2_leastLeft_34 : decode cX2_leastLeft 34 = .ok (.areturn, 1) := by decide +kernel
theorem dX2_leastLeft_35 : decode cX2_leastLeft 35 = .ok (.iinc 1 1, 3) := by decide +kernel
theorem dX2_leastLeft_38 : decode cX2_leastLeft 38 = .ok (.goto (-36), 3) := by decide +kernel
theorem dX2_leastLeft_41 : decode cX2_leastLeft 41 = .ok (.aconst_null, 1) := by decide +kernel
theorem dX2_leastLeft_42 : decode cX2_leastLeft 42 = .ok (.areturn, 1) := by decide +kernel
theorem dX2_lessen_0 : decode cX2_lessen 0 = .ok (.iconst (-1), 1) := by decide +kernel
theorem dX2_lessen_1 : decode cX2_lessen 1 = .ok (.istore_n 2, 1) := by decide +kernel
theorem dX2_lessen_2 : decode cX2_lessen 2 = .ok (.aload_n 0, 1) := by decide +kernel
theorem dX2_lessen_3 : decode cX2_lessen 3 = .ok (.getfield 9, 3) := by decide +kernel
theorem dX2_lessen_6 : decode cX2_lessen 6 = .ok (.iload_n 1, 1) := by decide +kernel
theorem dX2_lessen_7 : decode cX2_lessen 7 = .ok (.iaload, 1) := by decide +kernel
theorem dX2_lessen_8 : decode cX2_lessen 8 = .ok (.istore_n 3, 1) := by decide +kernel
theorem dX2_lessen_9 : decode cX2_lessen 9 = .ok (.iconst 0, 1) := by decide +kernel
theorem dX2_lessen_10 : decode cX2_lessen 10 = .ok (.istore 4, 2) := by decide +kernel
theorem dX2_lessen_12 : decode cX2_lessen 12 = .ok (.iload 4, 2) := by decide +kernel
theorem dX2_lessen_14 : decode cX2_lessen 14 = .ok (.bipush 32, 2) := by decide +kernel
theorem dX2_lessen_16 : decode cX2_lessen 16 = .ok (.if_icmp .ge 51, 3) := by decide +kernel
theorem dX2_lessen_19 : decode cX2_lessen 19 = .ok (.iload_n 3, 1) := by decide +kernel
theorem dX2_lessen_20 : decode cX2_lessen 20 = .ok (.iload_n 2, 1) := by decide +kernel
theorem dX2_lessen_21 : decode cX2_lessen 21 = .ok (.isub, 1) := by decide +kernel
theorem dX2_lessen_22 : decode cX2_lessen 22 = .ok (.iconst 1, 1) := by decide +kernel
theorem dX2_lessen_23 : decode cX2_lessen 23 = .ok (.if_icmp .le 44, 3) := by decide +kernel
theorem dX2_lessen_26 : decode cX2_lessen 26 = .ok (.aload_n 0, 1) := by decide +kernel
theorem dX2_lessen_27 : decode cX2_lessen 27 = .ok (.getfield 9, 3) := by decide +kernel
theorem dX2_lessen_30 : decode cX2_lessen 30 = .ok (.iload_n 1, 1) := by decide +kernel
theorem dX2_lessen_31 : decode cX2_lessen 31 = .ok (.iload_n 2, 1) := by decide +kernel
theorem dX2_lessen_32 : decode cX2_lessen 32 = .ok (.iload_n 3, 1) := by decide +kernel
theorem dX2_lessen_33 : decode cX2_lessen 33 = .ok (.iadd, 1) := by decide +kernel
theorem dX2_lessen_34 : decode cX2_lessen 34 = .ok (.iconst 2, 1) := by decide +kernel
theorem dX2_lessen_35 : decode cX2_lessen 35 = .ok (.idiv, 1) := by decide +kernel
theorem dX2_lessen_36 : decode cX2_lessen 36 = .ok (.iastore, 1) := by decide +kernel
theorem dX2_lessen_37 : decode cX2_lessen 37 = .ok (.aload_n 0, 1) := by decide +kernel
theorem dX2_lessen_38 : decode cX2_lessen 38 = .ok (.invokevirtual 36, 3) := by decide +kernel
theorem dX2_lessen_41 : decode cX2_lessen 41 = .ok (.ifCond .eq 13, 3) := by decide +kernel
theorem dX2_lessen_44 : decode cX2_lessen 44 = .ok (.aload_n 0, 1) := by decide +kernel
theorem dX2_lessen_45 : decode cX2_lessen 45 = .ok (.getfield 9, 3) := by decide +kernel
theorem dX2_lessen_48 : decode cX2_lessen 48 = .ok (.iload_n 1, 1) := by decide +kernel
theorem dX2_lessen_49 : decode cX2_lessen 49 = .ok (.iaload, 1) := by decide +kernel
theorem dX2_lessen_50 : decode cX2_lessen 50 = .ok (.istore_n 2, 1) := by decide +kernel
theorem dX2_lessen_51 : decode cX2_lessen 51 = .ok (.goto 10, 3) := by decide +kernel
theorem dX2_lessen_54 : decode cX2_lessen 54 = .ok (.aload_n 0, 1) := by decide +kernel
theorem dX2_lessen_55 : decode cX2_lessen 55 = .ok (.getfield 9, 3) := by decide +kernel
theorem dX2_lessen_58 : decode cX2_lessen 58 = .ok (.iload_n 1, 1) := by decide +kernel
theorem dX2_lessen_59 : decode cX2_lessen 59 = .ok (.iaload, 1) := by decide +kernel
theorem dX2_lessen_60 : decode cX2_lessen 60 = .ok (.istore_n 3, 1) := by decide +kernel
theorem dX2_lessen_61 : decode cX2_lessen 61 = .ok (.iinc 4 1, 3) := by decide +kernel
theorem dX2_lessen_64 : decode cX2_lessen 64 = .ok (.goto (-52), 3) := by decide +kernel
theorem dX2_lessen_67 : decode cX2_lessen 67 = .ok (.aload_n 0, 1) := by decide +kernel
theorem dX2_lessen_68 : decode cX2_lessen 68 = .ok (.getfield 9, 3) := by decide +kernel
theorem dX2_lessen_71 : decode cX2_lessen 71 = .ok (.iload_n 1, 1) := by decide +kernel
theorem dX2_lessen_72 : decode cX2_lessen 72 = .ok (.iload_n 3, 1) := by decide +kernel
theorem dX2_lessen_73 : decode cX2_lessen 73 = .ok (.iastore, 1) := by decide +kernel
theorem dX2_lessen_74 : decode cX2_lessen 74 = .ok (.return_, 1) := by decide +kernel
theorem dX3_init_0 : decode cX3_init 0 = .ok (.aload_n 0, 1) := by decide +kernel
theorem dX3_init_1 : decode cX3_init 1 = .ok (.invokespecial 3, 3) := by decide +kernel
theorem dX3_init_4 : decode cX3_init 4 = .ok (.aload_n 0, 1) := by decide +kernel
theorem dX3_init_5 : decode cX3_init 5 = .ok (.bipush 40, 2) := by decide +kernel
theorem dX3_init_7 : decode cX3_init 7 = .ok (.newarray .int, 2) := by decide +kernel
theorem dX3_init_9 : decode cX3_init 9 = .ok (.putfield 9, 3) := by decide +kernel
theorem dX3_init_12 : decode cX3_init 12 = .ok (.aload_n 0, 1) := by decide +kernel
theorem dX3_init_13 : decode cX3_init 13 = .ok (.bipush 40, 2) := by decide +kernel
theorem dX3_init_15 : decode cX3_init 15 = .ok (.newarray .int, 2) := by decide +kernel
theorem dX3_init_17 : decode cX3_init 17 = .ok (.putfield 15, 3) := by decide +kernel
theorem dX3_init_20 : decode cX3_init 20 = .ok (.aload_n 0, 1) := by decide +kernel
theorem dX3_init_21 : decode cX3_init 21 = .ok (.sipush 800, 3) := by decide +kernel
theorem dX3_init_24 : decode cX3_init 24 = .ok (.newarray .int, 2) := by decide +kernel
theorem dX3_init_26 : decode cX3_init 26 = .ok (.putfield 18, 3) := by decide +kernel
theorem dX3_init_29 : decode cX3_init 29 = .ok (.aload_n 0, 1) := by decide +kernel
theorem dX3_init_30 : decode cX3_init 30 = .ok (.aload_n 1, 1) := by decide +kernel
theorem dX3_init_31 : decode cX3_init 31 = .ok (.putfield 21, 3) := by decide +kernel
theorem dX3_init_34 : decode cX3_init 34 = .ok (.aload_n 0, 1) := by decide +kernel
theorem dX3_init_35 : decode cX3_init 35 = .ok (.aload_n 2, 1) := by decide +kernel
theorem dX3_init_36 : decode cX3_init 36 = .ok (.putfield 25, 3) := by decide +kernel
theorem dX3_init_39 : decode cX3_init 39 = .ok (.return_, 1) := by decide +kernel
theorem dX3_finds_0 : decode cX3_finds 0 = .ok (.aload_n 0, 1) := by decide +kernel
theorem dX3_finds_1 : decode cX3_finds 1 = .ok (.iload_n 1, 1) := by decide +kernel
theorem dX3_finds_2 : decode cX3_finds 2 = .ok (.putfield 29, 3) := by decide +kernel
theorem dX3_finds_5 : decode cX3_finds 5 = .ok (.aload_n 0, 1) := by decide +kernel
theorem dX3_finds_6 : decode cX3_finds 6 = .ok (.iconst 0, 1) := by decide +kernel
theorem dX3_finds_7 : decode cX3_finds 7 = .ok (.putfield 33, 3) := by decide +kernel
theorem dX3_finds_10 : decode cX3_finds 10 = .ok (.aload_n 0, 1) := by decide +kernel
theorem dX3_finds_11 : decode cX3_finds 11 = .ok (.iconst 0, 1) := by decide +kernel
theorem dX3_finds_12 : decode cX3_finds 12 = .ok (.putfield 36, 3) := by decide +kernel
theorem dX3_finds_15 : decode cX3_finds 15 = .ok (.aload_n 0, 1) := by decide +kernel
theorem dX3_finds_16 : decode cX3_finds 16 = .ok (.ldc 40, 2) := by decide +kernel
theorem dX3_finds_18 : decode cX3_finds 18 = .ok (.putfield 41, 3) := by decide +kernel
theorem dX3_finds_21 : decode cX3_finds 21 = .ok (.aload_n 0, 1) := by decide +kernel
theorem dX3_finds_22 : decode cX3_finds 22 = .ok (.getfield 25, 3) := by decide +kernel
theorem dX3_finds_25 : decode cX3_finds 25 = .ok (.invokevirtual 44, 3) := by decide +kernel
theorem dX3_finds_28 : decode cX3_finds 28 = .ok (.aload_n 0, 1) := by decide +kernel
theorem dX3_finds_29 : decode cX3_finds 29 = .ok (.iconst 0, 1) := by decide +kernel
theorem dX3_finds_30 : decode cX3_finds 30 = .ok (.invokevirtual 49, 3) := by decide +kernel
theorem dX3_finds_33 : decode cX3_finds 33 = .ok (.aload_n 0, 1) := by decide +kernel
theorem dX3_finds_34 : decode cX3_finds 34 = .ok (.getfield 36, 3) := by decide +kernel
theorem dX3_finds_37 : decode cX3_finds 37 = .ok (.ifCond .ne 7, 3) := by decide +kernel
theorem dX3_finds_40 : decode cX3_finds 40 = .ok (.iconst 1, 1) := by decide +kernel
theorem dX3_finds_41 : decode cX3_finds 41 = .ok (.goto 4, 3) := by decide +kernel
theorem dX3_finds_44 : decode cX3_finds 44 = .ok (.iconst 0, 1) := by decide +kernel
theorem dX3_finds_45 : decode cX3_finds 45 = .ok (.ireturn, 1) := by decide +kernel
theorem dX3_tryAll_0 : decode cX3_tryAll 0 = .ok (.iload_n 1, 1) := by decide +kernel
theorem dX3_tryAll_1 : decode cX3_tryAll 1 = .ok (.bipush 40, 2) := by decide +kernel
theorem dX3_tryAll_3 : decode cX3_tryAll 3 = .ok (.if_icmp .lt 4, 3) := by decide +kernel
theorem dX3_tryAll_6 : decode cX3_tryAll 6 = .ok (.return_, 1) := by decide +kernel
theorem dX3_tryAll_7 : decode cX3_tryAll 7 = .ok (.iconst 0, 1) := by decide +kernel
theorem dX3_tryAll_8 : decode cX3_tryAll 8 = .ok (.istore_n 2, 1) := by decide +kernel
theorem dX3_tryAll_9 : decode cX3_tryAll 9 = .ok (.iload_n 2, 1) := by decide +kernel
theorem dX3_tryAll_10 : decode cX3_tryAll 10 = .ok (.aload_n 0, 1) := by decide +kernel
theorem dX3_tryAll_11 : decode cX3_tryAll 11 = .ok (.getfield 21, 3) := by decide +kernel
theorem dX3_tryAll_14 : decode cX3_tryAll 14 = .ok (.getfield 53, 3) := by decide +kernel
theorem dX3_tryAll_17 : decode cX3_tryAll 17 = .ok (.if_icmp .ge 43, 3) := by decide +kernel
theorem dX3_tryAll_20 : decode cX3_tryAll 20 = .ok (.aload_n 0, 1) := by decide +kernel
theorem dX3_tryAll_21 : decode cX3_tryAll 21 = .ok (.getfield 36, 3) := by decide +kernel
theorem dX3_tryAll_24 : decode cX3_tryAll 24 = .ok (.ifCond .ne 36, 3) := by decide +kernel
theorem dX3_tryAll_27 : decode cX3_tryAll 27 = .ok (.aload_n 0, 1) := by decide +kernel
theorem dX3_tryAll_28 : decode cX3_tryAll 28 = .ok (.getfield 21, 3) := by decide +kernel
theorem dX3_tryAll_31 : decode cX3_tryAll 31 = .ok (.getfield 58, 3) := by decide +kernel
theorem dX3_tryAll_34 : decode cX3_tryAll 34 = .ok (.iload_n 2, 1) := by decide +kernel
theorem dX3_tryAll_35 : decode cX3_tryAll 35 = .ok (.aaload, 1) := by decide +kernel
theorem dX3_tryAll_36 : decode cX3_tryAll 36 = .ok (.astore_n 3, 1) := by decide +kernel
theorem dX3_tryAll_37 : decode cX3_tryAll 37 = .ok (.aload_n 0, 1) := by decide +kernel
theorem dX3_tryAll_38 : decode cX3_tryAll 38 = .ok (.getfield 25, 3) := by decide +kernel
theorem dX3_tryAll_41 : decode cX3_tryAll 41 = .ok (.aload_n 3, 1) := by decide +kernel
theorem dX3_tryAll_42 : decode cX3_tryAll 42 = .ok (.invokevirtual 62, 3) := by decide +kernel
theorem dX3_tryAll_45 : decode cX3_tryAll 45 = .ok (.ifCond .eq 9, 3) := by decide +kernel
theorem dX3_tryAll_48 : decode cX3_tryAll 48 = .ok (.aload_n 0, 1) := by decide +kernel
theorem dX3_tryAll_49 : decode cX3_tryAll 49 = .ok (.aload_n 3, 1) := by decide +kernel
theorem dX3_tryAll_50 : decode cX3_tryAll 50 = .ok (.iload_n 1, 1) := by decide +kernel
theorem dX3_tryAll_51 : decode cX3_tryAll 51 = .ok (.invokevirtual 66, 3) := by decide +kernel
theorem dX3_tryAll_54 : decode cX3_tryAll 54 = .ok (.iinc 2 1, 3) := by decide +kernel
theorem dX3_tryAll_57 : decode cX3_tryAll 57 = .ok (.goto (-48), 3) := by decide +kernel
theorem dX3_tryAll_60 : decode cX3_tryAll 60 = .ok (.return_, 1) := by decide +kernel
theorem dX3_tryOne_0 : decode cX3_tryOne 0 = .ok (.aload_n 0, 1) := by decide +kernel
theorem dX3_tryOne_1 : decode cX3_tryOne 1 = .ok (.getfield 33, 3) := by decide +kernel
theorem dX3_tryOne_4 : decode cX3_tryOne 4 = .ok (.aload_n 0, 1) := by decide +kernel
theorem dX3_tryOne_5 : decode cX3_tryOne 5 = .ok (.getfield 29, 3) := by decide +kernel
theorem dX3_tryOne_8 : decode cX3_tryOne 8 = .ok (.if_icmp .lt 9, 3) := by decide +kernel
theorem dX3_tryOne_11 : decode cX3_tryOne 11 = .ok (.aload_n 0, 1) := by decide +kernel
theorem dX3_tryOne_12 : decode cX3_tryOne 12 = .ok (.iconst 1, 1) := by decide +kernel
theorem dX3_tryOne_13 : decode cX3_tryOne 13 = .ok (.putfield 36, 3) := by decide +kernel
theorem dX3_tryOne_16 : decode cX3_tryOne 16 = .ok (.return_, 1) := by decide +kernel
theorem dX3_tryOne_17 : decode cX3_tryOne 17 = .ok (.aload_n 0, 1) := by decide +kernel
theorem dX3_tryOne_18 : decode cX3_tryOne 18 = .ok (.dup, 1) := by decide +kernel
theorem dX3_tryOne_19 : decode cX3_tryOne 19 = .ok (.getfield 33, 3) := by decide +kernel
theorem dX3_tryOne_22 : decode cX3_tryOne 22 = .ok (.iconst 1, 1) := by decide +kernel
theorem dX3_tryOne_23 : decode cX3_tryOne 23 = .ok (.iadd, 1) := by decide +kernel
theorem dX3_tryOne_24 : decode cX3_tryOne 24 = .ok (.putfield 33, 3) := by decide +kernel
theorem dX3_tryOne_27 : decode cX3_tryOne 27 = .ok (.aload_n 0, 1) := by decide +kernel
theorem dX3_tryOne_28 : decode cX3_tryOne 28 = .ok (.getfield 15, 3) := by decide +kernel
theorem dX3_tryOne_31 : decode cX3_tryOne 31 = .ok (.iload_n 2, 1) := by decide +kernel
theorem dX3_tryOne_32 : decode cX3_tryOne 32 = .ok (.aload_n 1, 1) := by decide +kernel
theorem dX3_tryOne_33 : decode cX3_tryOne 33 = .ok (.getfield 70, 3) := by decide +kernel
theorem dX3_tryOne_36 : decode cX3_tryOne 36 = .ok (.iastore, 1) := by decide +kernel
theorem dX3_tryOne_37 : decode cX3_tryOne 37 = .ok (.aload_n 0, 1) := by decide +kernel
theorem dX3_tryOne_38 : decode cX3_tryOne 38 = .ok (.getfield 25, 3) := by decide +kernel
theorem dX3_tryOne_41 : decode cX3_tryOne 41 = .ok (.getfield 75, 3) := by decide +kernel
theorem dX3_tryOne_44 : decode cX3_tryOne 44 = .ok (.istore_n 3, 1) := by decide +kernel
theorem dX3_tryOne_45 : decode cX3_tryOne 45 = .ok (.aload_n 0, 1) := by decide +kernel
theorem dX3_tryOne_46 : decode cX3_tryOne 46 = .ok (.aload_n 1, 1) := by decide +kernel
theorem dX3_tryOne_47 : decode cX3_tryOne 47 = .ok (.iload_n 2, 1) := by decide +kernel
theorem dX3_tryOne_48 : decode cX3_tryOne 48 = .ok (.invokevirtual 78, 3) := by decide +kernel
theorem dX3_tryOne_51 : decode cX3_tryOne 51 = .ok (.aload_n 0, 1) := by decide +kernel
theorem dX3_tryOne_52 : decode cX3_tryOne 52 = .ok (.getfield 25, 3) := by decide +kernel
theorem dX3_tryOne_55 : decode cX3_tryOne 55 = .ok (.aload_n 1, 1) := by decide +kernel
theorem dX3_tryOne_56 : decode cX3_tryOne 56 = .ok (.invokevirtual 81, 3) := by decide +kernel
theorem dX3_tryOne_59 : decode cX3_tryOne 59 = .ok (.aload_n 0, 1) := by decide +kernel
theorem dX3_tryOne_60 : decode cX3_tryOne 60 = .ok (.getfield 25, 3) := by decide +kernel
theorem dX3_tryOne_63 : decode cX3_tryOne 63 = .ok (.getfield 75, 3) := by decide +kernel
theorem dX3_tryOne_66 : decode cX3_tryOne 66 = .ok (.aload_n 0, 1) := by decide +kernel
theorem dX3_tryOne_67 : decode cX3_tryOne 67 = .ok (.getfield 41, 3) := by decide +kernel
theorem dX3_tryOne_70 : decode cX3_tryOne 70 = .ok (.if_icmp .ge 50, 3) := by decide +kernel
theorem dX3_tryOne_73 : decode cX3_tryOne 73 = .ok (.aload_n 0, 1) := by decide +kernel
theorem dX3_tryOne_74 : decode cX3_tryOne 74 = .ok (.getfield 25, 3) := by decide +kernel
theorem dX3_tryOne_77 : decode cX3_tryOne 77 = .ok (.getfield 85, 3) := by decide +kernel
theorem dX3_tryOne_80 : decode cX3_tryOne 80 = .ok (.ifCond .ne 33, 3) := by decide +kernel
theorem dX3_tryOne_83 : decode cX3_tryOne 83 = .ok (.aload_n 0, 1) := by decide +kernel
theorem dX3_tryOne_84 : decode cX3_tryOne 84 = .ok (.aload_n 0, 1) := by decide +kernel
theorem dX3_tryOne_85 : decode cX3_tryOne 85 = .ok (.getfield 25, 3) := by decide +kernel
theorem dX3_tryOne_88 : decode cX3_tryOne 88 = .ok (.getfield 75, 3) := by decide +kernel
theorem dX3_tryOne_91 : decode cX3_tryOne 91 = .ok (.putfield 41, 3) := by decide +kernel
theorem dX3_tryOne_94 : decode cX3_tryOne 94 = .ok (.aload_n 0, 1) := by decide +kernel
theorem dX3_tryOne_95 : decode cX3_tryOne 95 = .ok (.getfield 15, 3) := by decide +kernel
theorem dX3_tryOne_98 : decode cX3_tryOne 98 = .ok (.iconst 0, 1) := by decide +kernel
theorem dX3_tryOne_99 : decode cX3_tryOne 99 = .ok (.aload_n 0, 1) := by decide +kernel
theorem dX3_tryOne_100 : decode cX3_tryOne 100 = .ok (.getfield 9, 3) := by decide +kernel
theorem dX3_tryOne_103 : decode cX3_tryOne 103 = .ok (.iconst 0, 1) := by decide +kernel
theorem dX3_tryOne_104 : decode cX3_tryOne 104 = .ok (.iload_n 2, 1) := by decide +kernel
theorem dX3_tryOne_105 : decode cX3_tryOne 105 = .ok (.iconst 1, 1) := by decide +kernel
theorem dX3_tryOne_106 : decode cX3_tryOne 106 = .ok (.iadd, 1) := by decide +kernel
theorem dX3_tryOne_107 : decode cX3_tryOne 107 = .ok (.invokestatic 88, 3) := by decide +kernel
theorem dX3_tryOne_110 : decode cX3_tryOne 110 = .ok (.goto 10, 3) := by decide +kernel
theorem dX3_tryOne_113 : decode cX3_tryOne 113 = .ok (.aload_n 0, 1) := by decide +kernel
theorem dX3_tryOne_114 : decode cX3_tryOne 114 = .ok (.iload_n 2, 1) := by decide +kernel
theorem dX3_tryOne_115 : decode cX3_tryOne 115 = .ok (.iconst 1, 1) := by decide +kernel
theorem dX3_tryOne_116 : decode cX3_tryOne 116 = .ok (.iadd, 1) := by decide +kernel
theorem dX3_tryOne_117 : decode cX3_tryOne 117 = .ok (.invokevirtual 49, 3) := by decide +kernel
theorem dX3_tryOne_120 : decode cX3_tryOne 120 = .ok (.aload_n 0, 1) := by decide +kernel
theorem dX3_tryOne_121 : decode cX3_tryOne 121 = .ok (.getfield 25, 3) := by decide +kernel
theorem dX3_tryOne_124 : decode cX3_tryOne 124 = .ok (.aload_n 1, 1) := by decide +kernel
theorem dX3_tryOne_125 : decode cX3_tryOne 125 = .ok (.invokevirtual 94, 3) := by decide +kernel
theorem dX3_tryOne_128 : decode cX3_tryOne 128 = .ok (.aload_n 0, 1) := by decide +kernel
theorem dX3_tryOne_129 : decode cX3_tryOne 129 = .ok (.aload_n 1, 1) := by decide +kernel
theorem dX3_tryOne_130 : decode cX3_tryOne 130 = .ok (.iload_n 2, 1) := by decide +kernel
theorem dX3_tryOne_131 : decode cX3_tryOne 131 = .ok (.invokevirtual 97, 3) := by decide +kernel
theorem dX3_tryOne_134 : decode cX3_tryOne 134 = .ok (.aload_n 0, 1) := by decide +kernel
theorem dX3_tryOne_135 : decode cX3_tryOne 135 = .ok (.getfield 25, 3) := by decide +kernel
theorem dX3_tryOne_138 : decode cX3_tryOne 138 = .ok (.iload_n 3, 1) := by decide +kernel
theorem dX3_tryOne_139 : decode cX3_tryOne 139 = .ok (.putfield 75, 3) := by decide +kernel
theorem dX3_tryOne_142 : decode cX3_tryOne 142 = .ok (.return_, 1) := by decide +kernel
theorem dX3_keepStores_0 : decode cX3_keepStores 0 = .ok (.aload_n 1, 1) := by decide +kernel
theorem dX3_keepStores_1 : decode cX3_keepStores 1 = .ok (.getfield 100, 3) := by decide +kernel
theorem dX3_keepStores_4 : decode cX3_keepStores 4 = .ok (.astore_n 3, 1) := by decide +kernel
theorem dX3_keepStores_5 : decode cX3_keepStores 5 = .ok (.aload_n 3, 1) := by decide +kernel
theorem dX3_keepStores_6 : decode cX3_keepStores 6 = .ok (.ifnull 37, 3) := by decide +kernel
theorem dX3_keepStores_9 : decode cX3_keepStores 9 = .ok (.aload_n 0, 1) := by decide +kernel
theorem dX3_keepStores_10 : decode cX3_keepStores 10 = .ok (.getfield 18, 3) := by decide +kernel
theorem dX3_keepStores_13 : decode cX3_keepStores 13 = .ok (.iload_n 2, 1) := by decide +kernel
theorem dX3_keepStores_14 : decode cX3_keepStores 14 = .ok (.bipush 20, 2) := by decide +kernel
theorem dX3_keepStores_16 : decode cX3_keepStores 16 = .ok (.imul, 1) := by decide +kernel
theorem dX3_keepStores_17 : decode cX3_keepStores 17 = .ok (.aload_n 3, 1) := by decide +kernel
theorem dX3_keepStores_18 : decode cX3_keepStores 18 = .ok (.getfield 104, 3) := by decide +kernel
theorem dX3_keepStores_21 : decode cX3_keepStores 21 = .ok (.iadd, 1) := by decide +kernel
theorem dX3_keepStores_22 : decode cX3_keepStores 22 = .ok (.aload_n 0, 1) := by decide +kernel
theorem dX3_keepStores_23 : decode cX3_keepStores 23 = .ok (.getfield 25, 3) := by decide +kernel
theorem dX3_keepStores_26 : decode cX3_keepStores 26 = .ok (.getfield 107, 3) := by decide +kernel
theorem dX3_keepStores_29 : decode cX3_keepStores 29 = .ok (.aload_n 3, 1) := by decide +kernel
theorem dX3_keepStores_30 : decode cX3_keepStores 30 = .ok (.getfield 104, 3) := by decide +kernel
theorem dX3_keepStores_33 : decode cX3_keepStores 33 = .ok (.iaload, 1) := by decide +kernel
theorem dX3_keepStores_34 : decode cX3_keepStores 34 = .ok (.iastore, 1) := by decide +kernel
theorem dX3_keepStores_35 : decode cX3_keepStores 35 = .ok (.aload_n 3, 1) := by decide +kernel
theorem dX3_keepStores_36 : decode cX3_keepStores 36 = .ok (.getfield 110, 3) := by decide +kernel
theorem dX3_keepStores_39 : decode cX3_keepStores 39 = .ok (.astore_n 3, 1) := by decide +kernel
theorem dX3_keepStores_40 : decode cX3_keepStores 40 = .ok (.goto (-35), 3) := by decide +kernel
theorem dX3_keepStores_43 : decode cX3_keepStores 43 = .ok (.return_, 1) := by decide +kernel
theorem dX3_giveStoresBack_0 : decode cX3_giveStoresBack 0 = .ok (.aload_n 1, 1) := by decide +kernel
theorem dX3_giveStoresBack_1 : decode cX3_giveStoresBack 1 = .ok (.getfield 100, 3) := by decide +kernel
theorem dX3_giveStoresBack_4 : decode cX3_giveStoresBack 4 = .ok (.astore_n 3, 1) := by decide +kernel
theorem dX3_giveStoresBack_5 : decode cX3_giveStoresBack 5 = .ok (.aload_n 3, 1) := by decide +kernel
theorem dX3_giveStoresBack_6 : decode cX3_giveStoresBack 6 = .ok (.ifnull 37, 3) := by decide +kernel
theorem dX3_giveStoresBack_9 : decode cX3_giveStoresBack 9 = .ok (.aload_n 0, 1) := by decide +kernel
theorem dX3_giveStoresBack_10 : decode cX3_giveStoresBack 10 = .ok (.getfield 25, 3) := by decide +kernel
theorem dX3_giveStoresBack_13 : decode cX3_giveStoresBack 13 = .ok (.getfield 107, 3) := by decide +kernel
theorem dX3_giveStoresBack_16 : decode cX3_giveStoresBack 16 = .ok (.aload_n 3, 1) := by decide +kernel
theorem dX3_giveStoresBack_17 : decode cX3_giveStoresBack 17 = .ok (.getfield 104, 3) := by decide +kernel
theorem dX3_giveStoresBack_20 : decode cX3_giveStoresBack 20 = .ok (.aload_n 0, 1) := by decide +kernel
theorem dX3_giveStoresBack_21 : decode cX3_giveStoresBack 21 = .ok (.getfield 18, 3) := by decide +kernel
theorem dX3_giveStoresBack_24 : decode cX3_giveStoresBack 24 = .ok (.iload_n 2, 1) := by decide +kernel
theorem dX3_giveStoresBack_25 : decode cX3_giveStoresBack 25 = .ok (.bipush 20, 2) := by decide +kernel
theorem dX3_giveStoresBack_27 : decode cX3_giveStoresBack 27 = .ok (.imul, 1) := by decide +kernel
theorem dX3_giveStoresBack_28 : decode cX3_giveStoresBack 28 = .ok (.aload_n 3, 1) := by decide +kernel
theorem dX3_giveStoresBack_29 : decode cX3_giveStoresBack 29 = .ok (.getfield 104, 3) := by decide +kernel
theorem dX3_giveStoresBack_32 : decode cX3_giveStoresBack 32 = .ok (.iadd, 1) := by decide +kernel
theorem dX3_giveStoresBack_33 : decode cX3_giveStoresBack 33 = .ok (.iaload, 1) := by decide +kernel
theorem dX3_giveStoresBack_34 : decode cX3_giveStoresBack 34 = .ok (.iastore, 1) := by decide +kernel
theorem dX3_giveStoresBack_35 : decode cX3_giveStoresBack 35 = .ok (.aload_n 3, 1) := by decide +kernel
theorem dX3_giveStoresBack_36 : decode cX3_giveStoresBack 36 = .ok (.getfield 110, 3) := by decide +kernel
theorem dX3_giveStoresBack_39 : decode cX3_giveStoresBack 39 = .ok (.astore_n 3, 1) := by decide +kernel
theorem dX3_giveStoresBack_40 : decode cX3_giveStoresBack 40 = .ok (.goto (-35), 3) := by decide +kernel
theorem dX3_giveStoresBack_43 : decode cX3_giveStoresBack 43 = .ok (.return_, 1) := by decide +kernel
theorem dX4_init_0 : decode cX4_init 0 = .ok (.aload_n 0, 1) := by decide +kernel
theorem dX4_init_1 : decode cX4_init 1 = .ok (.invokespecial 3, 3) := by decide +kernel
theorem dX4_init_4 : decode cX4_init 4 = .ok (.aload_n 0, 1) := by decide +kernel
theorem dX4_init_5 : decode cX4_init 5 = .ok (.bipush 60, 2) := by decide +kernel
theorem dX4_init_7 : decode cX4_init 7 = .ok (.newarray .long, 2) := by decide +kernel
theorem dX4_init_9 : decode cX4_init 9 = .ok (.putfield 9, 3) := by decide +kernel
theorem dX4_init_12 : decode cX4_init 12 = .ok (.aload_n 0, 1) := by decide +kernel
theorem dX4_init_13 : decode cX4_init 13 = .ok (.sipush 400, 3) := by decide +kernel
theorem dX4_init_16 : decode cX4_init 16 = .ok (.newarray .long, 2) := by decide +kernel
theorem dX4_init_18 : decode cX4_init 18 = .ok (.putfield 15, 3) := by decide +kernel
theorem dX4_init_21 : decode cX4_init 21 = .ok (.aload_n 0, 1) := by decide +kernel
theorem dX4_init_22 : decode cX4_init 22 = .ok (.sipush 200, 3) := by decide +kernel
theorem dX4_init_25 : decode cX4_init 25 = .ok (.newarray .long, 2) := by decide +kernel
theorem dX4_init_27 : decode cX4_init 27 = .ok (.putfield 18, 3) := by decide +kernel
theorem dX4_init_30 : decode cX4_init 30 = .ok (.aload_n 0, 1) := by decide +kernel
theorem dX4_init_31 : decode cX4_init 31 = .ok (.iload_n 1, 1) := by decide +kernel
theorem dX4_init_32 : decode cX4_init 32 = .ok (.putfield 21, 3) := by decide +kernel
theorem dX4_init_35 : decode cX4_init 35 = .ok (.aload_n 0, 1) := by decide +kernel
theorem dX4_init_36 : decode cX4_init 36 = .ok (.aload_n 2, 1) := by decide +kernel
theorem dX4_init_37 : decode cX4_init 37 = .ok (.putfield 25, 3) := by decide +kernel
theorem dX4_init_40 : decode cX4_init 40 = .ok (.aload_n 0, 1) := by decide +kernel
theorem dX4_init_41 : decode cX4_init 41 = .ok (.aload 4, 2) := by decide +kernel
theorem dX4_init_43 : decode cX4_init 43 = .ok (.putfield 29, 3) := by decide +kernel
theorem dX4_init_46 : decode cX4_init 46 = .ok (.aload_n 0, 1) := by decide +kernel
theorem dX4_init_47 : decode cX4_init 47 = .ok (.aload_n 2, 1) := by decide +kernel
theorem dX4_init_48 : decode cX4_init 48 = .ok (.getfield 32, 3) := by decide +kernel
theorem dX4_init_51 : decode cX4_init 51 = .ok (.newarray .int, 2) := by decide +kernel
theorem dX4_init_53 : decode cX4_init 53 = .ok (.putfield 37, 3) := by decide +kernel
theorem dX4_init_56 : decode cX4_init 56 = .ok (.aload_n 0, 1) := by decide +kernel
theorem dX4_init_57 : decode cX4_init 57 = .ok (.aload 4, 2) := by decide +kernel
theorem dX4_init_59 : decode cX4_init 59 = .ok (.getfield 32, 3) := by decide +kernel
theorem dX4_init_62 : decode cX4_init 62 = .ok (.newarray .int, 2) := by decide +kernel
theorem dX4_init_64 : decode cX4_init 64 = .ok (.putfield 41, 3) := by decide +kernel
theorem dX4_init_67 : decode cX4_init 67 = .ok (.aload_n 0, 1) := by decide +kernel
theorem dX4_init_68 : decode cX4_init 68 = .ok (.getfield 37, 3) := by decide +kernel
theorem dX4_init_71 : decode cX4_init 71 = .ok (.iload_n 3, 1) := by decide +kernel
theorem dX4_init_72 : decode cX4_init 72 = .ok (.invokestatic 44, 3) := by decide +kernel
theorem dX4_init_75 : decode cX4_init 75 = .ok (.aload_n 0, 1) := by decide +kernel
theorem dX4_init_76 : decode cX4_init 76 = .ok (.getfield 41, 3) := by decide +kernel
theorem dX4_init_79 : decode cX4_init 79 = .ok (.iload 5, 2) := by decide +kernel
theorem dX4_init_81 : decode cX4_init 81 = .ok (.invokestatic 44, 3) := by decide +kernel
theorem dX4_init_84 : decode cX4_init 84 = .ok (.return_, 1) := by decide +kernel
theorem dX4_givesIn_0 : decode cX4_givesIn 0 = .ok (.iload_n 1, 1) := by decide +kernel
theorem dX4_givesIn_1 : decode cX4_givesIn 1 = .ok (.ifCond .lt 21, 3) := by decide +kernel
theorem dX4_givesIn_4 : decode cX4_givesIn 4 = .ok (.iload_n 1, 1) := by decide +kernel
theorem dX4_givesIn_5 : decode cX4_givesIn 5 = .ok (.aload_n 0, 1) := by decide +kernel
theorem dX4_givesIn_6 : decode cX4_givesIn 6 = .ok (.getfield 37, 3) := by decide +kernel
theorem dX4_givesIn_9 : decode cX4_givesIn 9 = .ok (.arraylength, 1) := by decide +kernel
theorem dX4_givesIn_10 : decode cX4_givesIn 10 = .ok (.if_icmp .ge 12, 3) := by decide +kernel
theorem dX4_givesIn_13 : decode cX4_givesIn 13 = .ok (.aload_n 0, 1) := by decide +kernel
theorem dX4_givesIn_14 : decode cX4_givesIn 14 = .ok (.getfield 37, 3) := by decide +kernel
theorem dX4_givesIn_17 : decode cX4_givesIn 17 = .ok (.iload_n 1, 1) := by decide +kernel
theorem dX4_givesIn_18 : decode cX4_givesIn 18 = .ok (.iaload, 1) := by decide +kernel
theorem dX4_givesIn_19 : decode cX4_givesIn 19 = .ok (.goto 4, 3) := by decide +kernel
theorem dX4_givesIn_22 : decode cX4_givesIn 22 = .ok (.iconst 0, 1) := by decide +kernel
theorem dX4_givesIn_23 : decode cX4_givesIn 23 = .ok (.ireturn, 1) := by decide +kernel
theorem dX4_takesIn_0 : decode cX4_takesIn 0 = .ok (.iload_n 1, 1) := by decide +kernel
theorem dX4_takesIn_1 : decode cX4_takesIn 1 = .ok (.ifCond .lt 21, 3) := by decide +kernel
theorem dX4_takesIn_4 : decode cX4_takesIn 4 = .ok (.iload_n 1, 1) := by decide +kernel
theorem dX4_takesIn_5 : decode cX4_takesIn 5 = .ok (.aload_n 0, 1) := by decide +kernel
theorem dX4_takesIn_6 : decode cX4_takesIn 6 = .ok (.getfield 41, 3) := by decide +kernel
theorem dX4_takesIn_9 : decode cX4_takesIn 9 = .ok (.arraylength, 1) := by decide +kernel
theorem dX4_takesIn_10 : decode cX4_takesIn 10 = .ok (.if_icmp .ge 12, 3) := by decide +kernel
theorem dX4_takesIn_13 : decode cX4_takesIn 13 = .ok (.aload_n 0, 1) := by decide +kernel
theorem dX4_takesIn_14 : decode cX4_takesIn 14 = .ok (.getfield 41, 3) := by decide +kernel
theorem dX4_takesIn_17 : decode cX4_takesIn 17 = .ok (.iload_n 1, 1) := by decide +kernel
theorem dX4_takesIn_18 : decode cX4_takesIn 18 = .ok (.iaload, 1) := by decide +kernel
theorem dX4_takesIn_19 : decode cX4_takesIn 19 = .ok (.goto 4, 3) := by decide +kernel
theorem dX4_takesIn_22 : decode cX4_takesIn 22 = .ok (.iconst 0, 1) := by decide +kernel
theorem dX4_takesIn_23 : decode cX4_takesIn 23 = .ok (.ireturn, 1) := by decide +kernel
theorem dX4_sumOf_0 : decode cX4_sumOf 0 = .ok (.iconst 0, 1) := by decide +kernel
theorem dX4_sumOf_1 : decode cX4_sumOf 1 = .ok (.istore_n 1, 1) := by decide +kernel
theorem dX4_sumOf_2 : decode cX4_sumOf 2 = .ok (.aload_n 0, 1) := by decide +kernel
theorem dX4_sumOf_3 : decode cX4_sumOf 3 = .ok (.astore_n 2, 1) := by decide +kernel
theorem dX4_sumOf_4 : decode cX4_sumOf 4 = .ok (.aload_n 2, 1) := by decide +kernel
theorem dX4_sumOf_5 : decode cX4_sumOf 5 = .ok (.arraylength, 1) := by decide +kernel
theorem dX4_sumOf_6 : decode cX4_sumOf 6 = .ok (.istore_n 3, 1) := by decide +kernel
theorem dX4_sumOf_7 : decode cX4_sumOf 7 = .ok (.iconst 0, 1) := by decide +kernel
theorem dX4_sumOf_8 : decode cX4_sumOf 8 = .ok (.istore 4, 2) := by decide +kernel
theorem dX4_sumOf_10 : decode cX4_sumOf 10 = .ok (.iload 4, 2) := by decide +kernel
theorem dX4_sumOf_12 : decode cX4_sumOf 12 = .ok (.iload_n 3, 1) := by decide +kernel
theorem dX4_sumOf_13 : decode cX4_sumOf 13 = .ok (.if_icmp .ge 20, 3) := by decide +kernel
theorem dX4_sumOf_16 : decode cX4_sumOf 16 = .ok (.aload_n 2, 1) := by decide +kernel
theorem dX4_sumOf_17 : decode cX4_sumOf 17 = .ok (.iload 4, 2) := by decide +kernel
theorem dX4_sumOf_19 : decode cX4_sumOf 19 = .ok (.iaload, 1) := by decide +kernel
theorem dX4_sumOf_20 : decode cX4_sumOf 20 = .ok (.istore 5, 2) := by decide +kernel
theorem dX4_sumOf_22 : decode cX4_sumOf 22 = .ok (.iload_n 1, 1) := by decide +kernel
theorem dX4_sumOf_23 : decode cX4_sumOf 23 = .ok (.iload 5, 2) := by decide +kernel
theorem dX4_sumOf_25 : decode cX4_sumOf 25 = .ok (.iadd, 1) := by decide +kernel
theorem dX4_sumOf_26 : decode cX4_sumOf 26 = .ok (.istore_n 1, 1) := by decide +kernel
theorem dX4_sumOf_27 : decode cX4_sumOf 27 = .ok (.iinc 4 1, 3) := by decide +kernel
theorem dX4_sumOf_30 : decode cX4_sumOf 30 = .ok (.goto (-20), 3) := by decide +kernel
theorem dX4_sumOf_33 : decode cX4_sumOf 33 = .ok (.iload_n 1, 1) := by decide +kernel
theorem dX4_sumOf_34 : decode cX4_sumOf 34 = .ok (.ireturn, 1) := by decide +kernel
theorem dX4_endOf_0 : decode cX4_endOf 0 = .ok (.iload_n 1, 1) := by decide +kernel
theorem dX4_endOf_1 : decode cX4_endOf 1 = .ok (.tableswitch 59 0 3 #[31, 39, 47, 53], 31) := by decide +kernel
theorem dX4_endOf_32 : decode cX4_endOf 32 = .ok (.aload_n 0, 1) := by decide +kernel
theorem dX4_endOf_33 : decode cX4_endOf 33 = .ok (.getfield 25, 3) := by decide +kernel
theorem dX4_endOf_36 : decode cX4_endOf 36 = .ok (.getfield 50, 3) := by decide +kernel
theorem dX4_endOf_39 : decode cX4_endOf 39 = .ok (.ireturn, 1) := by decide +kernel
theorem dX4_endOf_40 : decode cX4_endOf 40 = .ok (.aload_n 0, 1) := by decide +kernel
theorem dX4_endOf_41 : decode cX4_endOf 41 = .ok (.getfield 29, 3) := by decide +kernel
theorem dX4_endOf_44 : decode cX4_endOf 44 = .ok (.getfield 50, 3) := by decide +kernel
theorem dX4_endOf_47 : decode cX4_endOf 47 = .ok (.ireturn, 1) := by decide +kernel
theorem dX4_endOf_48 : decode cX4_endOf 48 = .ok (.aload_n 0, 1) := by decide +kernel
theorem dX4_endOf_49 : decode cX4_endOf 49 = .ok (.iconst 0, 1) := by decide +kernel
theorem dX4_endOf_50 : decode cX4_endOf 50 = .ok (.invokevirtual 51, 3) := by decide +kernel
theorem dX4_endOf_53 : decode cX4_endOf 53 = .ok (.ireturn, 1) := by decide +kernel
theorem dX4_endOf_54 : decode cX4_endOf 54 = .ok (.aload_n 0, 1) := by decide +kernel
theorem dX4_endOf_55 : decode cX4_endOf 55 = .ok (.iconst 0, 1) := by decide +kernel
theorem dX4_endOf_56 : decode cX4_endOf 56 = .ok (.invokevirtual 55, 3) := by decide +kernel
theorem dX4_endOf_59 : decode cX4_endOf 59 = .ok (.ireturn, 1) := by decide +kernel
theorem dX4_endOf_60 : decode cX4_endOf 60 = .ok (.aload_n 0, 1) := by decide +kernel
theorem dX4_endOf_61 : decode cX4_endOf 61 = .ok (.getfield 58, 3) := by decide +kernel
theorem dX4_endOf_64 : decode cX4_endOf 64 = .ok (.ireturn, 1) := by decide +kernel
theorem dX4_toFirst_0 : decode cX4_toFirst 0 = .ok (.aload_n 0, 1) := by decide +kernel
theorem dX4_toFirst_1 : decode cX4_toFirst 1 = .ok (.iconst 0, 1) := by decide +kernel
theorem dX4_toFirst_2 : decode cX4_toFirst 2 = .ok (.putfield 61, 3) := by decide +kernel
theorem dX4_toFirst_5 : decode cX4_toFirst 5 = .ok (.aload_n 0, 1) := by decide +kernel
theorem dX4_toFirst_6 : decode cX4_toFirst 6 = .ok (.aload_n 0, 1) := by decide +kernel
theorem dX4_toFirst_7 : decode cX4_toFirst 7 = .ok (.getfield 58, 3) := by decide +kernel
theorem dX4_toFirst_10 : decode cX4_toFirst 10 = .ok (.putfield 64, 3) := by decide +kernel
theorem dX4_toFirst_13 : decode cX4_toFirst 13 = .ok (.aload_n 0, 1) := by decide +kernel
theorem dX4_toFirst_14 : decode cX4_toFirst 14 = .ok (.iconst 0, 1) := by decide +kernel
theorem dX4_toFirst_15 : decode cX4_toFirst 15 = .ok (.putfield 67, 3) := by decide +kernel
theorem dX4_toFirst_18 : decode cX4_toFirst 18 = .ok (.aload_n 0, 1) := by decide +kernel
theorem dX4_toFirst_19 : decode cX4_toFirst 19 = .ok (.getfield 9, 3) := by decide +kernel
theorem dX4_toFirst_22 : decode cX4_toFirst 22 = .ok (.iconst 0, 1) := by decide +kernel
theorem dX4_toFirst_23 : decode cX4_toFirst 23 = .ok (.aload_n 0, 1) := by decide +kernel
theorem dX4_toFirst_24 : decode cX4_toFirst 24 = .ok (.getfield 15, 3) := by decide +kernel
theorem dX4_toFirst_27 : decode cX4_toFirst 27 = .ok (.iconst 0, 1) := by decide +kernel
theorem dX4_toFirst_28 : decode cX4_toFirst 28 = .ok (.aload_n 0, 1) := by decide +kernel
theorem dX4_toFirst_29 : decode cX4_toFirst 29 = .ok (.getfield 58, 3) := by decide +kernel
theorem dX4_toFirst_32 : decode cX4_toFirst 32 = .ok (.invokestatic 70, 3) := by decide +kernel
theorem dX4_toFirst_35 : decode cX4_toFirst 35 = .ok (.return_, 1) := by decide +kernel
theorem dX4_thingAt_0 : decode cX4_thingAt 0 = .ok (.iload_n 1, 1) := by decide +kernel
theorem dX4_thingAt_1 : decode cX4_thingAt 1 = .ok (.ifCond .lt 29, 3) := by decide +kernel
theorem dX4_thingAt_4 : decode cX4_thingAt 4 = .ok (.iload_n 1, 1) := by decide +kernel
theorem dX4_thingAt_5 : decode cX4_thingAt 5 = .ok (.aload_n 0, 1) := by decide +kernel
theorem dX4_thingAt_6 : decode cX4_thingAt 6 = .ok (.getfield 64, 3) := by decide +kernel
theorem dX4_thingAt_9 : decode cX4_thingAt 9 = .ok (.if_icmp .ge 21, 3) := by decide +kernel
theorem dX4_thingAt_12 : decode cX4_thingAt 12 = .ok (.aload_n 0, 1) := by decide +kernel
theorem dX4_thingAt_13 : decode cX4_thingAt 13 = .ok (.getfield 15, 3) := by decide +kernel
theorem dX4_thingAt_16 : decode cX4_thingAt 16 = .ok (.aload_n 0, 1) := by decide +kernel
theorem dX4_thingAt_17 : decode cX4_thingAt 17 = .ok (.getfield 61, 3) := by decide +kernel
theorem dX4_thingAt_20 : decode cX4_thingAt 20 = .ok (.iload_n 1, 1) := by decide +kernel
theorem dX4_thingAt_21 : decode cX4_thingAt 21 = .ok (.iadd, 1) := by decide +kernel
theorem dX4_thingAt_22 : decode cX4_thingAt 22 = .ok (.sipush 400, 3) := by decide +kernel
theorem dX4_thingAt_25 : decode cX4_thingAt 25 = .ok (.irem, 1) := by decide +kernel
theorem dX4_thingAt_26 : decode cX4_thingAt 26 = .ok (.laload, 1) := by decide +kernel
theorem dX4_thingAt_27 : decode cX4_thingAt 27 = .ok (.goto 4, 3) := by decide +kernel
theorem dX4_thingAt_30 : decode cX4_thingAt 30 = .ok (.lconst 0, 1) := by decide +kernel
theorem dX4_thingAt_31 : decode cX4_thingAt 31 = .ok (.lreturn, 1) := by decide +kernel
theorem dX4_drop_0 : decode cX4_drop 0 = .ok (.iconst 0, 1) := by decide +kernel
theorem dX4_drop_1 : decode cX4_drop 1 = .ok (.iload_n 1, 1) := by decide +kernel
theorem dX4_drop_2 : decode cX4_drop 2 = .ok (.aload_n 0, 1) := by decide +kernel
theorem dX4_drop_3 : decode cX4_drop 3 = .ok (.getfield 64, 3) := by decide +kernel
theorem dX4_drop_6 : decode cX4_drop 6 = .ok (.invokestatic 76, 3) := by decide +kernel
theorem dX4_drop_9 : decode cX4_drop 9 = .ok (.invokestatic 82, 3) := by decide +kernel
theorem dX4_drop_12 : decode cX4_drop 12 = .ok (.istore_n 2, 1) := by decide +kernel
theorem dX4_drop_13 : decode cX4_drop 13 = .ok (.aload_n 0, 1) := by decide +kernel
theorem dX4_drop_14 : decode cX4_drop 14 = .ok (.aload_n 0, 1) := by decide +kernel
theorem dX4_drop_15 : decode cX4_drop 15 = .ok (.getfield 61, 3) := by decide +kernel
theorem dX4_drop_18 : decode cX4_drop 18 = .ok (.iload_n 2, 1) := by decide +kernel
theorem dX4_drop_19 : decode cX4_drop 19 = .ok (.iadd, 1) := by decide +kernel
theorem dX4_drop_20 : decode cX4_drop 20 = .ok (.sipush 400, 3) := by decide +kernel
theorem dX4_drop_23 : decode cX4_drop 23 = .ok (.irem, 1) := by decide +kernel
theorem dX4_drop_24 : decode cX4_drop 24 = .ok (.putfield 61, 3) := by decide +kernel
theorem dX4_drop_27 : decode cX4_drop 27 = .ok (.aload_n 0, 1) := by decide +kernel
theorem dX4_drop_28 : decode cX4_drop 28 = .ok (.dup, 1) := by decide +kernel
theorem dX4_drop_29 : decode cX4_drop 29 = .ok (.getfield 64, 3) := by decide +kernel
theorem dX4_drop_32 : decode cX4_drop 32 = .ok (.iload_n 2, 1) := by decide +kernel
theorem dX4_drop_33 : decode cX4_drop 33 = .ok (.isub, 1) := by decide +kernel
theorem dX4_drop_34 : decode cX4_drop 34 = .ok (.putfield 64, 3) := by decide +kernel
theorem dX4_drop_37 : decode cX4_drop 37 = .ok (.return_, 1) := by decide +kernel
theorem dX4_put_0 : decode cX4_put 0 = .ok (.aload_n 0, 1) := by decide +kernel
theorem dX4_put_1 : decode cX4_put 1 = .ok (.getfield 64, 3) := by decide +kernel
theorem dX4_put_4 : decode cX4_put 4 = .ok (.sipush 400, 3) := by decide +kernel
theorem dX4_put_7 : decode cX4_put 7 = .ok (.if_icmp .lt 4, 3) := by decide +kernel
theorem dX4_put_10 : decode cX4_put 10 = .ok (.return_, 1) := by decide +kernel
theorem dX4_put_11 : decode cX4_put 11 = .ok (.aload_n 0, 1) := by decide +kernel
theorem dX4_put_12 : decode cX4_put 12 = .ok (.getfield 15, 3) := by decide +kernel
theorem dX4_put_15 : decode cX4_put 15 = .ok (.aload_n 0, 1) := by decide +kernel
theorem dX4_put_16 : decode cX4_put 16 = .ok (.getfield 61, 3) := by decide +kernel
theorem dX4_put_19 : decode cX4_put 19 = .ok (.aload_n 0, 1) := by decide +kernel
theorem dX4_put_20 : decode cX4_put 20 = .ok (.getfield 64, 3) := by decide +kernel
theorem dX4_put_23 : decode cX4_put 23 = .ok (.iadd, 1) := by decide +kernel
theorem dX4_put_24 : decode cX4_put 24 = .ok (.sipush 400, 3) := by decide +kernel
theorem dX4_put_27 : decode cX4_put 27 = .ok (.irem, 1) := by decide +kernel
theorem dX4_put_28 : decode cX4_put 28 = .ok (.lload_n 1, 1) := by decide +kernel
theorem dX4_put_29 : decode cX4_put 29 = .ok (.lastore, 1) := by decide +kernel
theorem dX4_put_30 : decode cX4_put 30 = .ok (.aload_n 0, 1) := by decide +kernel
theorem dX4_put_31 : decode cX4_put 31 = .ok (.dup, 1) := by decide +kernel
theorem dX4_put_32 : decode cX4_put 32 = .ok (.getfield 64, 3) := by decide +kernel
theorem dX4_put_35 : decode cX4_put 35 = .ok (.iconst 1, 1) := by decide +kernel
theorem dX4_put_36 : decode cX4_put 36 = .ok (.iadd, 1) := by decide +kernel
theorem dX4_put_37 : decode cX4_put 37 = .ok (.putfield 64, 3) := by decide +kernel
theorem dX4_put_40 : decode cX4_put 40 = .ok (.aload_n 0, 1) := by decide +kernel
theorem dX4_put_41 : decode cX4_put 41 = .ok (.getfield 67, 3) := by decide +kernel
theorem dX4_put_44 : decode cX4_put 44 = .ok (.sipush 200, 3) := by decide +kernel
theorem dX4_put_47 : decode cX4_put 47 = .ok (.if_icmp .ge 23, 3) := by decide +kernel
theorem dX4_put_50 : decode cX4_put 50 = .ok (.aload_n 0, 1) := by decide +kernel
theorem dX4_put_51 : decode cX4_put 51 = .ok (.getfield 18, 3) := by decide +kernel
theorem dX4_put_54 : decode cX4_put 54 = .ok (.aload_n 0, 1) := by decide +kernel
theorem dX4_put_55 : decode cX4_put 55 = .ok (.getfield 67, 3) := by decide +kernel
theorem dX4_put_58 : decode cX4_put 58 = .ok (.lload_n 1, 1) := by decide +kernel
theorem dX4_put_59 : decode cX4_put 59 = .ok (.lastore, 1) := by decide +kernel
theorem dX4_put_60 : decode cX4_put 60 = .ok (.aload_n 0, 1) := by decide +kernel
theorem dX4_put_61 : decode cX4_put 61 = .ok (.dup, 1) := by decide +kernel
theorem dX4_put_62 : decode cX4_put 62 = .ok (.getfield 67, 3) := by decide +kernel
theorem dX4_put_65 : decode cX4_put 65 = .ok (.iconst 1, 1) := by decide +kernel
theorem dX4_put_66 : decode cX4_put 66 = .ok (.iadd, 1) := by decide +kernel
theorem dX4_put_67 : decode cX4_put 67 = .ok (.putfield 67, 3) := by decide +kernel
theorem dX4_put_70 : decode cX4_put 70 = .ok (.return_, 1) := by decide +kernel
theorem dX4_digestFrom_0 : decode cX4_digestFrom 0 = .ok (.iconst 0, 1) := by decide +kernel
theorem dX4_digestFrom_1 : decode cX4_digestFrom 1 = .ok (.istore_n 3, 1) := by decide +kernel
theorem dX4_digestFrom_2 : decode cX4_digestFrom 2 = .ok (.iload_n 3, 1) := by decide +kernel
theorem dX4_digestFrom_3 : decode cX4_digestFrom 3 = .ok (.iconst 4, 1) := by decide +kernel
theorem dX4_digestFrom_4 : decode cX4_digestFrom 4 = .ok (.if_icmp .gt 22, 3) := by decide +kernel
theorem dX4_digestFrom_7 : decode cX4_digestFrom 7 = .ok (.ldc2_w 85, 3) := by decide +kernel
theorem dX4_digestFrom_10 : decode cX4_digestFrom 10 = .ok (.lload_n 1, 1) := by decide +kernel
theorem dX4_digestFrom_11 : decode cX4_digestFrom 11 = .ok (.lmul, 1) := by decide +kernel
theorem dX4_digestFrom_12 : decode cX4_digestFrom 12 = .ok (.aload_n 0, 1) := by decide +kernel
theorem dX4_digestFrom_13 : decode cX4_digestFrom 13 = .ok (.iload_n 3, 1) := by decide +kernel
theorem dX4_digestFrom_14 : decode cX4_digestFrom 14 = .ok (.invokevirtual 87, 3) := by decide +kernel
theorem dX4_digestFrom_17 : decode cX4_digestFrom 17 = .ok (.i2l, 1) := by decide +kernel
theorem dX4_digestFrom_18 : decode cX4_digestFrom 18 = .ok (.ladd, 1) := by decide +kernel
theorem dX4_digestFrom_19 : decode cX4_digestFrom 19 = .ok (.lstore_n 1, 1) := by decide +kernel
theorem dX4_digestFrom_20 : decode cX4_digestFrom 20 = .ok (.iinc 3 1, 3) := by decide +kernel
theorem dX4_digestFrom_23 : decode cX4_digestFrom 23 = .ok (.goto (-21), 3) := by decide +kernel
theorem dX4_digestFrom_26 : decode cX4_digestFrom 26 = .ok (.ldc2_w 85, 3) := by decide +kernel
theorem dX4_digestFrom_29 : decode cX4_digestFrom 29 = .ok (.lload_n 1, 1) := by decide +kernel
theorem dX4_digestFrom_30 : decode cX4_digestFrom 30 = .ok (.lmul, 1) := by decide +kernel
theorem dX4_digestFrom_31 : decode cX4_digestFrom 31 = .ok (.aload_n 0, 1) := by decide +kernel
theorem dX4_digestFrom_32 : decode cX4_digestFrom 32 = .ok (.getfield 64, 3) := by decide +kernel
theorem dX4_digestFrom_35 : decode cX4_digestFrom 35 = .ok (.i2l, 1) := by decide +kernel
theorem dX4_digestFrom_36 : decode cX4_digestFrom 36 = .ok (.ladd, 1) := by decide +kernel
theorem dX4_digestFrom_37 : decode cX4_digestFrom 37 = .ok (.lstore_n 1, 1) := by decide +kernel
theorem dX4_digestFrom_38 : decode cX4_digestFrom 38 = .ok (.iconst 0, 1) := by decide +kernel
theorem dX4_digestFrom_39 : decode cX4_digestFrom 39 = .ok (.istore_n 3, 1) := by decide +kernel
theorem dX4_digestFrom_40 : decode cX4_digestFrom 40 = .ok (.iload_n 3, 1) := by decide +kernel
theorem dX4_digestFrom_41 : decode cX4_digestFrom 41 = .ok (.aload_n 0, 1) := by decide +kernel
theorem dX4_digestFrom_42 : decode cX4_digestFrom 42 = .ok (.getfield 64, 3) := by decide +kernel
theorem dX4_digestFrom_45 : decode cX4_digestFrom 45 = .ok (.if_icmp .ge 21, 3) := by decide +kernel
theorem dX4_digestFrom_48 : decode cX4_digestFrom 48 = .ok (.ldc2_w 85, 3) := by decide +kernel
theorem dX4_digestFrom_51 : decode cX4_digestFrom 51 = .ok (.lload_n 1, 1) := by decide +kernel
theorem dX4_digestFrom_52 : decode cX4_digestFrom 52 = .ok (.lmul, 1) := by decide +kernel
theorem dX4_digestFrom_53 : decode cX4_digestFrom 53 = .ok (.aload_n 0, 1) := by decide +kernel
theorem dX4_digestFrom_54 : decode cX4_digestFrom 54 = .ok (.iload_n 3, 1) := by decide +kernel
theorem dX4_digestFrom_55 : decode cX4_digestFrom 55 = .ok (.invokevirtual 90, 3) := by decide +kernel
theorem dX4_digestFrom_58 : decode cX4_digestFrom 58 = .ok (.ladd, 1) := by decide +kernel
theorem dX4_digestFrom_59 : decode cX4_digestFrom 59 = .ok (.lstore_n 1, 1) := by decide +kernel
theorem dX4_digestFrom_60 : decode cX4_digestFrom 60 = .ok (.iinc 3 1, 3) := by decide +kernel
theorem dX4_digestFrom_63 : decode cX4_digestFrom 63 = .ok (.goto (-23), 3) := by decide +kernel
theorem dX4_digestFrom_66 : decode cX4_digestFrom 66 = .ok (.lload_n 1, 1) := by decide +kernel
theorem dX4_digestFrom_67 : decode cX4_digestFrom 67 = .ok (.lreturn, 1) := by decide +kernel
theorem dX5_init_0 : decode cX5_init 0 = .ok (.aload_n 0, 1) := by decide +kernel
theorem dX5_init_1 : decode cX5_init 1 = .ok (.invokespecial 3, 3) := by decide +kernel
theorem dX5_init_4 : decode cX5_init 4 = .ok (.aload_n 0, 1) := by decide +kernel
theorem dX5_init_5 : decode cX5_init 5 = .ok (.bipush 20, 2) := by decide +kernel
theorem dX5_init_7 : decode cX5_init 7 = .ok (.newarray .int, 2) := by decide +kernel
theorem dX5_init_9 : decode cX5_init 9 = .ok (.putfield 9, 3) := by decide +kernel
theorem dX5_init_12 : decode cX5_init 12 = .ok (.aload_n 0, 1) := by decide +kernel
theorem dX5_init_13 : decode cX5_init 13 = .ok (.bipush 20, 2) := by decide +kernel
theorem dX5_init_15 : decode cX5_init 15 = .ok (.newarray .int, 2) := by decide +kernel
theorem dX5_init_17 : decode cX5_init 17 = .ok (.putfield 15, 3) := by decide +kernel
theorem dX5_init_20 : decode cX5_init 20 = .ok (.aload_n 0, 1) := by decide +kernel
theorem dX5_init_21 : decode cX5_init 21 = .ok (.bipush 12, 2) := by decide +kernel
theorem dX5_init_23 : decode cX5_init 23 = .ok (.newarray .int, 2) := by decide +kernel
theorem dX5_init_25 : decode cX5_init 25 = .ok (.putfield 18, 3) := by decide +kernel
theorem dX5_init_28 : decode cX5_init 28 = .ok (.aload_n 0, 1) := by decide +kernel
theorem dX5_init_29 : decode cX5_init 29 = .ok (.bipush 12, 2) := by decide +kernel
theorem dX5_init_31 : decode cX5_init 31 = .ok (.newarray .int, 2) := by decide +kernel
theorem dX5_init_33 : decode cX5_init 33 = .ok (.putfield 21, 3) := by decide +kernel
theorem dX5_init_36 : decode cX5_init 36 = .ok (.aload_n 0, 1) := by decide +kernel
theorem dX5_init_37 : decode cX5_init 37 = .ok (.bipush 12, 2) := by decide +kernel
theorem dX5_init_39 : decode cX5_init 39 = .ok (.newarray .int, 2) := by decide +kernel
theorem dX5_init_41 : decode cX5_init 41 = .ok (.putfield 24, 3) := by decide +kernel
theorem dX5_init_44 : decode cX5_init 44 = .ok (.aload_n 0, 1) := by decide +kernel
theorem dX5_init_45 : decode cX5_init 45 = .ok (.aload_n 1, 1) := by decide +kernel
theorem dX5_init_46 : decode cX5_init 46 = .ok (.putfield 27, 3) := by decide +kernel
theorem dX5_init_49 : decode cX5_init 49 = .ok (.return_, 1) := by decide +kernel
theorem dX5_begin_0 : decode cX5_begin 0 = .ok (.aload_n 0, 1) := by decide +kernel
theorem dX5_begin_1 : decode cX5_begin 1 = .ok (.iconst 0, 1) := by decide +kernel
theorem dX5_begin_2 : decode cX5_begin 2 = .ok (.putfield 31, 3) := by decide +kernel
theorem dX5_begin_5 : decode cX5_begin 5 = .ok (.aload_n 0, 1) := by decide +kernel
theorem dX5_begin_6 : decode cX5_begin 6 = .ok (.aload_n 0, 1) := by decide +kernel
theorem dX5_begin_7 : decode cX5_begin 7 = .ok (.getfield 27, 3) := by decide +kernel
theorem dX5_begin_10 : decode cX5_begin 10 = .ok (.getfield 35, 3) := by decide +kernel
theorem dX5_begin_13 : decode cX5_begin 13 = .ok (.putfield 40, 3) := by decide +kernel
theorem dX5_begin_16 : decode cX5_begin 16 = .ok (.iconst 0, 1) := by decide +kernel
theorem dX5_begin_17 : decode cX5_begin 17 = .ok (.istore_n 1, 1) := by decide +kernel
theorem dX5_begin_18 : decode cX5_begin 18 = .ok (.iload_n 1, 1) := by decide +kernel
theorem dX5_begin_19 : decode cX5_begin 19 = .ok (.aload_n 0, 1) := by decide +kernel
theorem dX5_begin_20 : decode cX5_begin 20 = .ok (.getfield 27, 3) := by decide +kernel
