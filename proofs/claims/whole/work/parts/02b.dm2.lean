theorem dX11_markFirst_25 : decode cX11_markFirst 25 = .ok (.aload_n 0, 1) := by decide +kernel
theorem dX11_markFirst_26 : decode cX11_markFirst 26 = .ok (.getfield 107, 3) := by decide +kernel
theorem dX11_markFirst_29 : decode cX11_markFirst 29 = .ok (.iload_n 2, 1) := by decide +kernel
theorem dX11_markFirst_30 : decode cX11_markFirst 30 = .ok (.iaload, 1) := by decide +kernel
theorem dX11_markFirst_31 : decode cX11_markFirst 31 = .ok (.goto 4, 3) := by decide +kernel
theorem dX11_markFirst_34 : decode cX11_markFirst 34 = .ok (.iconst 0, 1) := by decide +kernel
theorem dX11_markFirst_35 : decode cX11_markFirst 35 = .ok (.iadd, 1) := by decide +kernel
theorem dX11_markFirst_36 : decode cX11_markFirst 36 = .ok (.iastore, 1) := by decide +kernel
theorem dX11_markFirst_37 : decode cX11_markFirst 37 = .ok (.iinc 2 1, 3) := by decide +kernel
theorem dX11_markFirst_40 : decode cX11_markFirst 40 = .ok (.goto (-38), 3) := by decide +kernel
theorem dX11_markFirst_43 : decode cX11_markFirst 43 = .ok (.iconst 0, 1) := by decide +kernel
theorem dX11_markFirst_44 : decode cX11_markFirst 44 = .ok (.istore_n 2, 1) := by decide +kernel
theorem dX11_markFirst_45 : decode cX11_markFirst 45 = .ok (.iload_n 2, 1) := by decide +kernel
theorem dX11_markFirst_46 : decode cX11_markFirst 46 = .ok (.aload_n 0, 1) := by decide +kernel
theorem dX11_markFirst_47 : decode cX11_markFirst 47 = .ok (.getfield 202, 3) := by decide +kernel
theorem dX11_markFirst_50 : decode cX11_markFirst 50 = .ok (.if_icmp .ge 28, 3) := by decide +kernel
theorem dX11_markFirst_53 : decode cX11_markFirst 53 = .ok (.aload_n 0, 1) := by decide +kernel
theorem dX11_markFirst_54 : decode cX11_markFirst 54 = .ok (.getfield 101, 3) := by decide +kernel
theorem dX11_markFirst_57 : decode cX11_markFirst 57 = .ok (.iload_n 2, 1) := by decide +kernel
theorem dX11_markFirst_58 : decode cX11_markFirst 58 = .ok (.iconst 0, 1) := by decide +kernel
theorem dX11_markFirst_59 : decode cX11_markFirst 59 = .ok (.iastore, 1) := by decide +kernel
theorem dX11_markFirst_60 : decode cX11_markFirst 60 = .ok (.aload_n 0, 1) := by decide +kernel
theorem dX11_markFirst_61 : decode cX11_markFirst 61 = .ok (.getfield 104, 3) := by decide +kernel
theorem dX11_markFirst_64 : decode cX11_markFirst 64 = .ok (.iload_n 2, 1) := by decide +kernel
theorem dX11_markFirst_65 : decode cX11_markFirst 65 = .ok (.aload_n 0, 1) := by decide +kernel
theorem dX11_markFirst_66 : decode cX11_markFirst 66 = .ok (.getfield 95, 3) := by decide +kernel
theorem dX11_markFirst_69 : decode cX11_markFirst 69 = .ok (.iload_n 2, 1) := by decide +kernel
theorem dX11_markFirst_70 : decode cX11_markFirst 70 = .ok (.iaload, 1) := by decide +kernel
theorem dX11_markFirst_71 : decode cX11_markFirst 71 = .ok (.iastore, 1) := by decide +kernel
theorem dX11_markFirst_72 : decode cX11_markFirst 72 = .ok (.iinc 2 1, 3) := by decide +kernel
theorem dX11_markFirst_75 : decode cX11_markFirst 75 = .ok (.goto (-30), 3) := by decide +kernel
theorem dX11_markFirst_78 : decode cX11_markFirst 78 = .ok (.return_, 1) := by decide +kernel
theorem dX11_mayMark_0 : decode cX11_mayMark 0 = .ok (.iconst 1, 1) := by decide +kernel
theorem dX11_mayMark_1 : decode cX11_mayMark 1 = .ok (.istore_n 2, 1) := by decide +kernel
theorem dX11_mayMark_2 : decode cX11_mayMark 2 = .ok (.iconst 0, 1) := by decide +kernel
theorem dX11_mayMark_3 : decode cX11_mayMark 3 = .ok (.istore_n 3, 1) := by decide +kernel
theorem dX11_mayMark_4 : decode cX11_mayMark 4 = .ok (.iload_n 3, 1) := by decide +kernel
theorem dX11_mayMark_5 : decode cX11_mayMark 5 = .ok (.aload_n 0, 1) := by decide +kernel
theorem dX11_mayMark_6 : decode cX11_mayMark 6 = .ok (.getfield 209, 3) := by decide +kernel
theorem dX11_mayMark_9 : decode cX11_mayMark 9 = .ok (.if_icmp .ge 53, 3) := by decide +kernel
theorem dX11_mayMark_12 : decode cX11_mayMark 12 = .ok (.iload_n 2, 1) := by decide +kernel
theorem dX11_mayMark_13 : decode cX11_mayMark 13 = .ok (.ifCond .eq 41, 3) := by decide +kernel
theorem dX11_mayMark_16 : decode cX11_mayMark 16 = .ok (.aload_n 0, 1) := by decide +kernel
theorem dX11_mayMark_17 : decode cX11_mayMark 17 = .ok (.getfield 44, 3) := by decide +kernel
theorem dX11_mayMark_20 : decode cX11_mayMark 20 = .ok (.iload_n 3, 1) := by decide +kernel
theorem dX11_mayMark_21 : decode cX11_mayMark 21 = .ok (.iaload, 1) := by decide +kernel
theorem dX11_mayMark_22 : decode cX11_mayMark 22 = .ok (.iload_n 1, 1) := by decide +kernel
theorem dX11_mayMark_23 : decode cX11_mayMark 23 = .ok (.if_icmp .ne 27, 3) := by decide +kernel
theorem dX11_mayMark_26 : decode cX11_mayMark 26 = .ok (.aload_n 0, 1) := by decide +kernel
theorem dX11_mayMark_27 : decode cX11_mayMark 27 = .ok (.getfield 98, 3) := by decide +kernel
theorem dX11_mayMark_30 : decode cX11_mayMark 30 = .ok (.iload_n 3, 1) := by decide +kernel
theorem dX11_mayMark_31 : decode cX11_mayMark 31 = .ok (.iaload, 1) := by decide +kernel
theorem dX11_mayMark_32 : decode cX11_mayMark 32 = .ok (.aload_n 0, 1) := by decide +kernel
theorem dX11_mayMark_33 : decode cX11_mayMark 33 = .ok (.getfield 50, 3) := by decide +kernel
theorem dX11_mayMark_36 : decode cX11_mayMark 36 = .ok (.iconst 4, 1) := by decide +kernel
theorem dX11_mayMark_37 : decode cX11_mayMark 37 = .ok (.iload_n 3, 1) := by decide +kernel
theorem dX11_mayMark_38 : decode cX11_mayMark 38 = .ok (.imul, 1) := by decide +kernel
theorem dX11_mayMark_39 : decode cX11_mayMark 39 = .ok (.aload_n 0, 1) := by decide +kernel
theorem dX11_mayMark_40 : decode cX11_mayMark 40 = .ok (.getfield 101, 3) := by decide +kernel
theorem dX11_mayMark_43 : decode cX11_mayMark 43 = .ok (.iload_n 1, 1) := by decide +kernel
theorem dX11_mayMark_44 : decode cX11_mayMark 44 = .ok (.iaload, 1) := by decide +kernel
theorem dX11_mayMark_45 : decode cX11_mayMark 45 = .ok (.iadd, 1) := by decide +kernel
theorem dX11_mayMark_46 : decode cX11_mayMark 46 = .ok (.iaload, 1) := by decide +kernel
theorem dX11_mayMark_47 : decode cX11_mayMark 47 = .ok (.if_icmp .lt 7, 3) := by decide +kernel
theorem dX11_mayMark_50 : decode cX11_mayMark 50 = .ok (.iconst 1, 1) := by decide +kernel
theorem dX11_mayMark_51 : decode cX11_mayMark 51 = .ok (.goto 4, 3) := by decide +kernel
theorem dX11_mayMark_54 : decode cX11_mayMark 54 = .ok (.iconst 0, 1) := by decide +kernel
theorem dX11_mayMark_55 : decode cX11_mayMark 55 = .ok (.istore_n 2, 1) := by decide +kernel
theorem dX11_mayMark_56 : decode cX11_mayMark 56 = .ok (.iinc 3 1, 3) := by decide +kernel
theorem dX11_mayMark_59 : decode cX11_mayMark 59 = .ok (.goto (-55), 3) := by decide +kernel
theorem dX11_mayMark_62 : decode cX11_mayMark 62 = .ok (.iload_n 2, 1) := by decide +kernel
theorem dX11_mayMark_63 : decode cX11_mayMark 63 = .ok (.ireturn, 1) := by decide +kernel
theorem dX11_fireMark_0 : decode cX11_fireMark 0 = .ok (.iconst 0, 1) := by decide +kernel
theorem dX11_fireMark_1 : decode cX11_fireMark 1 = .ok (.istore_n 2, 1) := by decide +kernel
theorem dX11_fireMark_2 : decode cX11_fireMark 2 = .ok (.iload_n 2, 1) := by decide +kernel
theorem dX11_fireMark_3 : decode cX11_fireMark 3 = .ok (.aload_n 0, 1) := by decide +kernel
theorem dX11_fireMark_4 : decode cX11_fireMark 4 = .ok (.getfield 209, 3) := by decide +kernel
theorem dX11_fireMark_7 : decode cX11_fireMark 7 = .ok (.if_icmp .ge 85, 3) := by decide +kernel
theorem dX11_fireMark_10 : decode cX11_fireMark 10 = .ok (.aload_n 0, 1) := by decide +kernel
theorem dX11_fireMark_11 : decode cX11_fireMark 11 = .ok (.getfield 98, 3) := by decide +kernel
theorem dX11_fireMark_14 : decode cX11_fireMark 14 = .ok (.iload_n 2, 1) := by decide +kernel
theorem dX11_fireMark_15 : decode cX11_fireMark 15 = .ok (.dup2, 1) := by decide +kernel
theorem dX11_fireMark_16 : decode cX11_fireMark 16 = .ok (.iaload, 1) := by decide +kernel
theorem dX11_fireMark_17 : decode cX11_fireMark 17 = .ok (.aload_n 0, 1) := by decide +kernel
theorem dX11_fireMark_18 : decode cX11_fireMark 18 = .ok (.getfield 44, 3) := by decide +kernel
theorem dX11_fireMark_21 : decode cX11_fireMark 21 = .ok (.iload_n 2, 1) := by decide +kernel
theorem dX11_fireMark_22 : decode cX11_fireMark 22 = .ok (.iaload, 1) := by decide +kernel
theorem dX11_fireMark_23 : decode cX11_fireMark 23 = .ok (.iload_n 1, 1) := by decide +kernel
theorem dX11_fireMark_24 : decode cX11_fireMark 24 = .ok (.if_icmp .ne 21, 3) := by decide +kernel
theorem dX11_fireMark_27 : decode cX11_fireMark 27 = .ok (.aload_n 0, 1) := by decide +kernel
theorem dX11_fireMark_28 : decode cX11_fireMark 28 = .ok (.getfield 50, 3) := by decide +kernel
theorem dX11_fireMark_31 : decode cX11_fireMark 31 = .ok (.iconst 4, 1) := by decide +kernel
theorem dX11_fireMark_32 : decode cX11_fireMark 32 = .ok (.iload_n 2, 1) := by decide +kernel
theorem dX11_fireMark_33 : decode cX11_fireMark 33 = .ok (.imul, 1) := by decide +kernel
theorem dX11_fireMark_34 : decode cX11_fireMark 34 = .ok (.aload_n 0, 1) := by decide +kernel
theorem dX11_fireMark_35 : decode cX11_fireMark 35 = .ok (.getfield 101, 3) := by decide +kernel
theorem dX11_fireMark_38 : decode cX11_fireMark 38 = .ok (.iload_n 1, 1) := by decide +kernel
theorem dX11_fireMark_39 : decode cX11_fireMark 39 = .ok (.iaload, 1) := by decide +kernel
theorem dX11_fireMark_40 : decode cX11_fireMark 40 = .ok (.iadd, 1) := by decide +kernel
theorem dX11_fireMark_41 : decode cX11_fireMark 41 = .ok (.iaload, 1) := by decide +kernel
theorem dX11_fireMark_42 : decode cX11_fireMark 42 = .ok (.goto 4, 3) := by decide +kernel
theorem dX11_fireMark_45 : decode cX11_fireMark 45 = .ok (.iconst 0, 1) := by decide +kernel
theorem dX11_fireMark_46 : decode cX11_fireMark 46 = .ok (.isub, 1) := by decide +kernel
theorem dX11_fireMark_47 : decode cX11_fireMark 47 = .ok (.iastore, 1) := by decide +kernel
theorem dX11_fireMark_48 : decode cX11_fireMark 48 = .ok (.aload_n 0, 1) := by decide +kernel
theorem dX11_fireMark_49 : decode cX11_fireMark 49 = .ok (.getfield 98, 3) := by decide +kernel
theorem dX11_fireMark_52 : decode cX11_fireMark 52 = .ok (.iload_n 2, 1) := by decide +kernel
theorem dX11_fireMark_53 : decode cX11_fireMark 53 = .ok (.dup2, 1) := by decide +kernel
theorem dX11_fireMark_54 : decode cX11_fireMark 54 = .ok (.iaload, 1) := by decide +kernel
theorem dX11_fireMark_55 : decode cX11_fireMark 55 = .ok (.aload_n 0, 1) := by decide +kernel
theorem dX11_fireMark_56 : decode cX11_fireMark 56 = .ok (.getfield 41, 3) := by decide +kernel
theorem dX11_fireMark_59 : decode cX11_fireMark 59 = .ok (.iload_n 2, 1) := by decide +kernel
theorem dX11_fireMark_60 : decode cX11_fireMark 60 = .ok (.iaload, 1) := by decide +kernel
theorem dX11_fireMark_61 : decode cX11_fireMark 61 = .ok (.iload_n 1, 1) := by decide +kernel
theorem dX11_fireMark_62 : decode cX11_fireMark 62 = .ok (.if_icmp .ne 21, 3) := by decide +kernel
theorem dX11_fireMark_65 : decode cX11_fireMark 65 = .ok (.aload_n 0, 1) := by decide +kernel
theorem dX11_fireMark_66 : decode cX11_fireMark 66 = .ok (.getfield 47, 3) := by decide +kernel
theorem dX11_fireMark_69 : decode cX11_fireMark 69 = .ok (.iconst 4, 1) := by decide +kernel
theorem dX11_fireMark_70 : decode cX11_fireMark 70 = .ok (.iload_n 2, 1) := by decide +kernel
theorem dX11_fireMark_71 : decode cX11_fireMark 71 = .ok (.imul, 1) := by decide +kernel
theorem dX11_fireMark_72 : decode cX11_fireMark 72 = .ok (.aload_n 0, 1) := by decide +kernel
theorem dX11_fireMark_73 : decode cX11_fireMark 73 = .ok (.getfield 101, 3) := by decide +kernel
theorem dX11_fireMark_76 : decode cX11_fireMark 76 = .ok (.iload_n 1, 1) := by decide +kernel
theorem dX11_fireMark_77 : decode cX11_fireMark 77 = .ok (.iaload, 1) := by decide +kernel
theorem dX11_fireMark_78 : decode cX11_fireMark 78 = .ok (.iadd, 1) := by decide +kernel
theorem dX11_fireMark_79 : decode cX11_fireMark 79 = .ok (.iaload, 1) := by decide +kernel
theorem dX11_fireMark_80 : decode cX11_fireMark 80 = .ok (.goto 4, 3) := by decide +kernel
theorem dX11_fireMark_83 : decode cX11_fireMark 83 = .ok (.iconst 0, 1) := by decide +kernel
theorem dX11_fireMark_84 : decode cX11_fireMark 84 = .ok (.iadd, 1) := by decide +kernel
theorem dX11_fireMark_85 : decode cX11_fireMark 85 = .ok (.iastore, 1) := by decide +kernel
theorem dX11_fireMark_86 : decode cX11_fireMark 86 = .ok (.iinc 2 1, 3) := by decide +kernel
theorem dX11_fireMark_89 : decode cX11_fireMark 89 = .ok (.goto (-87), 3) := by decide +kernel
theorem dX11_fireMark_92 : decode cX11_fireMark 92 = .ok (.aload_n 0, 1) := by decide +kernel
theorem dX11_fireMark_93 : decode cX11_fireMark 93 = .ok (.getfield 101, 3) := by decide +kernel
theorem dX11_fireMark_96 : decode cX11_fireMark 96 = .ok (.iload_n 1, 1) := by decide +kernel
theorem dX11_fireMark_97 : decode cX11_fireMark 97 = .ok (.aload_n 0, 1) := by decide +kernel
theorem dX11_fireMark_98 : decode cX11_fireMark 98 = .ok (.getfield 101, 3) := by decide +kernel
theorem dX11_fireMark_101 : decode cX11_fireMark 101 = .ok (.iload_n 1, 1) := by decide +kernel
theorem dX11_fireMark_102 : decode cX11_fireMark 102 = .ok (.iaload, 1) := by decide +kernel
theorem dX11_fireMark_103 : decode cX11_fireMark 103 = .ok (.iconst 1, 1) := by decide +kernel
theorem dX11_fireMark_104 : decode cX11_fireMark 104 = .ok (.iadd, 1) := by decide +kernel
theorem dX11_fireMark_105 : decode cX11_fireMark 105 = .ok (.aload_n 0, 1) := by decide +kernel
theorem dX11_fireMark_106 : decode cX11_fireMark 106 = .ok (.getfield 20, 3) := by decide +kernel
theorem dX11_fireMark_109 : decode cX11_fireMark 109 = .ok (.iload_n 1, 1) := by decide +kernel
theorem dX11_fireMark_110 : decode cX11_fireMark 110 = .ok (.iaload, 1) := by decide +kernel
theorem dX11_fireMark_111 : decode cX11_fireMark 111 = .ok (.irem, 1) := by decide +kernel
theorem dX11_fireMark_112 : decode cX11_fireMark 112 = .ok (.iastore, 1) := by decide +kernel
theorem dX11_fireMark_113 : decode cX11_fireMark 113 = .ok (.aload_n 0, 1) := by decide +kernel
theorem dX11_fireMark_114 : decode cX11_fireMark 114 = .ok (.getfield 104, 3) := by decide +kernel
theorem dX11_fireMark_117 : decode cX11_fireMark 117 = .ok (.iload_n 1, 1) := by decide +kernel
theorem dX11_fireMark_118 : decode cX11_fireMark 118 = .ok (.dup2, 1) := by decide +kernel
theorem dX11_fireMark_119 : decode cX11_fireMark 119 = .ok (.iaload, 1) := by decide +kernel
theorem dX11_fireMark_120 : decode cX11_fireMark 120 = .ok (.iconst 1, 1) := by decide +kernel
theorem dX11_fireMark_121 : decode cX11_fireMark 121 = .ok (.isub, 1) := by decide +kernel
theorem dX11_fireMark_122 : decode cX11_fireMark 122 = .ok (.iastore, 1) := by decide +kernel
theorem dX11_fireMark_123 : decode cX11_fireMark 123 = .ok (.return_, 1) := by decide +kernel
theorem dX11_unfireMark_0 : decode cX11_unfireMark 0 = .ok (.aload_n 0, 1) := by decide +kernel
theorem dX11_unfireMark_1 : decode cX11_unfireMark 1 = .ok (.getfield 101, 3) := by decide +kernel
theorem dX11_unfireMark_4 : decode cX11_unfireMark 4 = .ok (.iload_n 1, 1) := by decide +kernel
theorem dX11_unfireMark_5 : decode cX11_unfireMark 5 = .ok (.aload_n 0, 1) := by decide +kernel
theorem dX11_unfireMark_6 : decode cX11_unfireMark 6 = .ok (.getfield 101, 3) := by decide +kernel
theorem dX11_unfireMark_9 : decode cX11_unfireMark 9 = .ok (.iload_n 1, 1) := by decide +kernel
theorem dX11_unfireMark_10 : decode cX11_unfireMark 10 = .ok (.iaload, 1) := by decide +kernel
theorem dX11_unfireMark_11 : decode cX11_unfireMark 11 = .ok (.aload_n 0, 1) := by decide +kernel
theorem dX11_unfireMark_12 : decode cX11_unfireMark 12 = .ok (.getfield 20, 3) := by decide +kernel
theorem dX11_unfireMark_15 : decode cX11_unfireMark 15 = .ok (.iload_n 1, 1) := by decide +kernel
theorem dX11_unfireMark_16 : decode cX11_unfireMark 16 = .ok (.iaload, 1) := by decide +kernel
theorem dX11_unfireMark_17 : decode cX11_unfireMark 17 = .ok (.iadd, 1) := by decide +kernel
theorem dX11_unfireMark_18 : decode cX11_unfireMark 18 = .ok (.iconst 1, 1) := by decide +kernel
theorem dX11_unfireMark_19 : decode cX11_unfireMark 19 = .ok (.isub, 1) := by decide +kernel
theorem dX11_unfireMark_20 : decode cX11_unfireMark 20 = .ok (.aload_n 0, 1) := by decide +kernel
theorem dX11_unfireMark_21 : decode cX11_unfireMark 21 = .ok (.getfield 20, 3) := by decide +kernel
theorem dX11_unfireMark_24 : decode cX11_unfireMark 24 = .ok (.iload_n 1, 1) := by decide +kernel
theorem dX11_unfireMark_25 : decode cX11_unfireMark 25 = .ok (.iaload, 1) := by decide +kernel
theorem dX11_unfireMark_26 : decode cX11_unfireMark 26 = .ok (.irem, 1) := by decide +kernel
theorem dX11_unfireMark_27 : decode cX11_unfireMark 27 = .ok (.iastore, 1) := by decide +kernel
theorem dX11_unfireMark_28 : decode cX11_unfireMark 28 = .ok (.aload_n 0, 1) := by decide +kernel
theorem dX11_unfireMark_29 : decode cX11_unfireMark 29 = .ok (.getfield 104, 3) := by decide +kernel
theorem dX11_unfireMark_32 : decode cX11_unfireMark 32 = .ok (.iload_n 1, 1) := by decide +kernel
theorem dX11_unfireMark_33 : decode cX11_unfireMark 33 = .ok (.dup2, 1) := by decide +kernel
theorem dX11_unfireMark_34 : decode cX11_unfireMark 34 = .ok (.iaload, 1) := by decide +kernel
theorem dX11_unfireMark_35 : decode cX11_unfireMark 35 = .ok (.iconst 1, 1) := by decide +kernel
theorem dX11_unfireMark_36 : decode cX11_unfireMark 36 = .ok (.iadd, 1) := by decide +kernel
theorem dX11_unfireMark_37 : decode cX11_unfireMark 37 = .ok (.iastore, 1) := by decide +kernel
theorem dX11_unfireMark_38 : decode cX11_unfireMark 38 = .ok (.iconst 0, 1) := by decide +kernel
theorem dX11_unfireMark_39 : decode cX11_unfireMark 39 = .ok (.istore_n 2, 1) := by decide +kernel
theorem dX11_unfireMark_40 : decode cX11_unfireMark 40 = .ok (.iload_n 2, 1) := by decide +kernel
theorem dX11_unfireMark_41 : decode cX11_unfireMark 41 = .ok (.aload_n 0, 1) := by decide +kernel
theorem dX11_unfireMark_42 : decode cX11_unfireMark 42 = .ok (.getfield 209, 3) := by decide +kernel
theorem dX11_unfireMark_45 : decode cX11_unfireMark 45 = .ok (.if_icmp .ge 85, 3) := by decide +kernel
theorem dX11_unfireMark_48 : decode cX11_unfireMark 48 = .ok (.aload_n 0, 1) := by decide +kernel
theorem dX11_unfireMark_49 : decode cX11_unfireMark 49 = .ok (.getfield 98, 3) := by decide +kernel
theorem dX11_unfireMark_52 : decode cX11_unfireMark 52 = .ok (.iload_n 2, 1) := by decide +kernel
theorem dX11_unfireMark_53 : decode cX11_unfireMark 53 = .ok (.dup2, 1) := by decide +kernel
theorem dX11_unfireMark_54 : decode cX11_unfireMark 54 = .ok (.iaload, 1) := by decide +kernel
theorem dX11_unfireMark_55 : decode cX11_unfireMark 55 = .ok (.aload_n 0, 1) := by decide +kernel
theorem dX11_unfireMark_56 : decode cX11_unfireMark 56 = .ok (.getfield 44, 3) := by decide +kernel
theorem dX11_unfireMark_59 : decode cX11_unfireMark 59 = .ok (.iload_n 2, 1) := by decide +kernel
theorem dX11_unfireMark_60 : decode cX11_unfireMark 60 = .ok (.iaload, 1) := by decide +kernel
theorem dX11_unfireMark_61 : decode cX11_unfireMark 61 = .ok (.iload_n 1, 1) := by decide +kernel
theorem dX11_unfireMark_62 : decode cX11_unfireMark 62 = .ok (.if_icmp .ne 21, 3) := by decide +kernel
theorem dX11_unfireMark_65 : decode cX11_unfireMark 65 = .ok (.aload_n 0, 1) := by decide +kernel
theorem dX11_unfireMark_66 : decode cX11_unfireMark 66 = .ok (.getfield 50, 3) := by decide +kernel
theorem dX11_unfireMark_69 : decode cX11_unfireMark 69 = .ok (.iconst 4, 1) := by decide +kernel
theorem dX11_unfireMark_70 : decode cX11_unfireMark 70 = .ok (.iload_n 2, 1) := by decide +kernel
theorem dX11_unfireMark_71 : decode cX11_unfireMark 71 = .ok (.imul, 1) := by decide +kernel
theorem dX11_unfireMark_72 : decode cX11_unfireMark 72 = .ok (.aload_n 0, 1) := by decide +kernel
theorem dX11_unfireMark_73 : decode cX11_unfireMark 73 = .ok (.getfield 101, 3) := by decide +kernel
theorem dX11_unfireMark_76 : decode cX11_unfireMark 76 = .ok (.iload_n 1, 1) := by decide +kernel
theorem dX11_unfireMark_77 : decode cX11_unfireMark 77 = .ok (.iaload, 1) := by decide +kernel
theorem dX11_unfireMark_78 : decode cX11_unfireMark 78 = .ok (.iadd, 1) := by decide +kernel
theorem dX11_unfireMark_79 : decode cX11_unfireMark 79 = .ok (.iaload, 1) := by decide +kernel
theorem dX11_unfireMark_80 : decode cX11_unfireMark 80 = .ok (.goto 4, 3) := by decide +kernel
theorem dX11_unfireMark_83 : decode cX11_unfireMark 83 = .ok (.iconst 0, 1) := by decide +kernel
theorem dX11_unfireMark_84 : decode cX11_unfireMark 84 = .ok (.iadd, 1) := by decide +kernel
theorem dX11_unfireMark_85 : decode cX11_unfireMark 85 = .ok (.iastore, 1) := by decide +kernel
theorem dX11_unfireMark_86 : decode cX11_unfireMark 86 = .ok (.aload_n 0, 1) := by decide +kernel
theorem dX11_unfireMark_87 : decode cX11_unfireMark 87 = .ok (.getfield 98, 3) := by decide +kernel
theorem dX11_unfireMark_90 : decode cX11_unfireMark 90 = .ok (.iload_n 2, 1) := by decide +kernel
theorem dX11_unfireMark_91 : decode cX11_unfireMark 91 = .ok (.dup2, 1) := by decide +kernel
theorem dX11_unfireMark_92 : decode cX11_unfireMark 92 = .ok (.iaload, 1) := by decide +kernel
theorem dX11_unfireMark_93 : decode cX11_unfireMark 93 = .ok (.aload_n 0, 1) := by decide +kernel
theorem dX11_unfireMark_94 : decode cX11_unfireMark 94 = .ok (.getfield 41, 3) := by decide +kernel
theorem dX11_unfireMark_97 : decode cX11_unfireMark 97 = .ok (.iload_n 2, 1) := by decide +kernel
theorem dX11_unfireMark_98 : decode cX11_unfireMark 98 = .ok (.iaload, 1) := by decide +kernel
theorem dX11_unfireMark_99 : decode cX11_unfireMark 99 = .ok (.iload_n 1, 1) := by decide +kernel
theorem dX11_unfireMark_100 : decode cX11_unfireMark 100 = .ok (.if_icmp .ne 21, 3) := by decide +kernel
theorem dX11_unfireMark_103 : decode cX11_unfireMark 103 = .ok (.aload_n 0, 1) := by decide +kernel
theorem dX11_unfireMark_104 : decode cX11_unfireMark 104 = .ok (.getfield 47, 3) := by decide +kernel
theorem dX11_unfireMark_107 : decode cX11_unfireMark 107 = .ok (.iconst 4, 1) := by decide +kernel
theorem dX11_unfireMark_108 : decode cX11_unfireMark 108 = .ok (.iload_n 2, 1) := by decide +kernel
theorem dX11_unfireMark_109 : decode cX11_unfireMark 109 = .ok (.imul, 1) := by decide +kernel
theorem dX11_unfireMark_110 : decode cX11_unfireMark 110 = .ok (.aload_n 0, 1) := by decide +kernel
theorem dX11_unfireMark_111 : decode cX11_unfireMark 111 = .ok (.getfield 101, 3) := by decide +kernel
theorem dX11_unfireMark_114 : decode cX11_unfireMark 114 = .ok (.iload_n 1, 1) := by decide +kernel
theorem dX11_unfireMark_115 : decode cX11_unfireMark 115 = .ok (.iaload, 1) := by decide +kernel
theorem dX11_unfireMark_116 : decode cX11_unfireMark 116 = .ok (.iadd, 1) := by decide +kernel
theorem dX11_unfireMark_117 : decode cX11_unfireMark 117 = .ok (.iaload, 1) := by decide +kernel
theorem dX11_unfireMark_118 : decode cX11_unfireMark 118 = .ok (.goto 4, 3) := by decide +kernel
theorem dX11_unfireMark_121 : decode cX11_unfireMark 121 = .ok (.iconst 0, 1) := by decide +kernel
theorem dX11_unfireMark_122 : decode cX11_unfireMark 122 = .ok (.isub, 1) := by decide +kernel
theorem dX11_unfireMark_123 : decode cX11_unfireMark 123 = .ok (.iastore, 1) := by decide +kernel
theorem dX11_unfireMark_124 : decode cX11_unfireMark 124 = .ok (.iinc 2 1, 3) := by decide +kernel
theorem dX11_unfireMark_127 : decode cX11_unfireMark 127 = .ok (.goto (-87), 3) := by decide +kernel
theorem dX11_unfireMark_130 : decode cX11_unfireMark 130 = .ok (.return_, 1) := by decide +kernel
theorem dX11_leastThatMay_0 : decode cX11_leastThatMay 0 = .ok (.iconst 0, 1) := by decide +kernel
theorem dX11_leastThatMay_1 : decode cX11_leastThatMay 1 = .ok (.istore_n 1, 1) := by decide +kernel
theorem dX11_leastThatMay_2 : decode cX11_leastThatMay 2 = .ok (.iload_n 1, 1) := by decide +kernel
theorem dX11_leastThatMay_3 : decode cX11_leastThatMay 3 = .ok (.aload_n 0, 1) := by decide +kernel
theorem dX11_leastThatMay_4 : decode cX11_leastThatMay 4 = .ok (.getfield 202, 3) := by decide +kernel
theorem dX11_leastThatMay_7 : decode cX11_leastThatMay 7 = .ok (.if_icmp .ge 28, 3) := by decide +kernel
theorem dX11_leastThatMay_10 : decode cX11_leastThatMay 10 = .ok (.aload_n 0, 1) := by decide +kernel
theorem dX11_leastThatMay_11 : decode cX11_leastThatMay 11 = .ok (.getfield 104, 3) := by decide +kernel
theorem dX11_leastThatMay_14 : decode cX11_leastThatMay 14 = .ok (.iload_n 1, 1) := by decide +kernel
theorem dX11_leastThatMay_15 : decode cX11_leastThatMay 15 = .ok (.iaload, 1) := by decide +kernel
theorem dX11_leastThatMay_16 : decode cX11_leastThatMay 16 = .ok (.ifCond .le 13, 3) := by decide +kernel
theorem dX11_leastThatMay_19 : decode cX11_leastThatMay 19 = .ok (.aload_n 0, 1) := by decide +kernel
theorem dX11_leastThatMay_20 : decode cX11_leastThatMay 20 = .ok (.iload_n 1, 1) := by decide +kernel
theorem dX11_leastThatMay_21 : decode cX11_leastThatMay 21 = .ok (.invokevirtual 283, 3) := by decide +kernel
theorem dX11_leastThatMay_24 : decode cX11_leastThatMay 24 = .ok (.ifCond .eq 5, 3) := by decide +kernel
theorem dX11_leastThatMay_27 : decode cX11_leastThatMay 27 = .ok (.iload_n 1, 1) := by decide +kernel
theorem dX11_leastThatMay_28 : decode cX11_leastThatMay 28 = .ok (.ireturn, 1) := by decide +kernel
theorem dX11_leastThatMay_29 : decode cX11_leastThatMay 29 = .ok (.iinc 1 1, 3) := by decide +kernel
theorem dX11_leastThatMay_32 : decode cX11_leastThatMay 32 = .ok (.goto (-30), 3) := by decide +kernel
theorem dX11_leastThatMay_35 : decode cX11_leastThatMay 35 = .ok (.bipush (-9), 2) := by decide +kernel
theorem dX11_leastThatMay_37 : decode cX11_leastThatMay 37 = .ok (.ireturn, 1) := by decide +kernel
theorem dX11_leastLeft_0 : decode cX11_leastLeft 0 = .ok (.iconst 0, 1) := by decide +kernel
theorem dX11_leastLeft_1 : decode cX11_leastLeft 1 = .ok (.istore_n 1, 1) := by decide +kernel
theorem dX11_leastLeft_2 : decode cX11_leastLeft 2 = .ok (.iload_n 1, 1) := by decide +kernel
theorem dX11_leastLeft_3 : decode cX11_leastLeft 3 = .ok (.aload_n 0, 1) := by decide +kernel
theorem dX11_leastLeft_4 : decode cX11_leastLeft 4 = .ok (.getfield 202, 3) := by decide +kernel
theorem dX11_leastLeft_7 : decode cX11_leastLeft 7 = .ok (.if_icmp .ge 20, 3) := by decide +kernel
theorem dX11_leastLeft_10 : decode cX11_leastLeft 10 = .ok (.aload_n 0, 1) := by decide +kernel
theorem dX11_leastLeft_11 : decode cX11_leastLeft 11 = .ok (.getfield 104, 3) := by decide +kernel
theorem dX11_leastLeft_14 : decode cX11_leastLeft 14 = .ok (.iload_n 1, 1) := by decide +kernel
theorem dX11_leastLeft_15 : decode cX11_leastLeft 15 = .ok (.iaload, 1) := by decide +kernel
theorem dX11_leastLeft_16 : decode cX11_leastLeft 16 = .ok (.ifCond .le 5, 3) := by decide +kernel
theorem dX11_leastLeft_19 : decode cX11_leastLeft 19 = .ok (.iload_n 1, 1) := by decide +kernel
theorem dX11_leastLeft_20 : decode cX11_leastLeft 20 = .ok (.ireturn, 1) := by decide +kernel
theorem dX11_leastLeft_21 : decode cX11_leastLeft 21 = .ok (.iinc 1 1, 3) := by decide +kernel
theorem dX11_leastLeft_24 : decode cX11_leastLeft 24 = .ok (.goto (-22), 3) := by decide +kernel
theorem dX11_leastLeft_27 : decode cX11_leastLeft 27 = .ok (.bipush (-9), 2) := by decide +kernel
theorem dX11_leastLeft_29 : decode cX11_leastLeft 29 = .ok (.ireturn, 1) := by decide +kernel
theorem dX11_isStuck_0 : decode cX11_isStuck 0 = .ok (.aload_n 0, 1) := by decide +kernel
theorem dX11_isStuck_1 : decode cX11_isStuck 1 = .ok (.iload_n 1, 1) := by decide +kernel
theorem dX11_isStuck_2 : decode cX11_isStuck 2 = .ok (.invokevirtual 286, 3) := by decide +kernel
theorem dX11_isStuck_5 : decode cX11_isStuck 5 = .ok (.aload_n 0, 1) := by decide +kernel
theorem dX11_isStuck_6 : decode cX11_isStuck 6 = .ok (.invokevirtual 290, 3) := by decide +kernel
theorem dX11_isStuck_9 : decode cX11_isStuck 9 = .ok (.istore_n 2, 1) := by decide +kernel
theorem dX11_isStuck_10 : decode cX11_isStuck 10 = .ok (.iload_n 2, 1) := by decide +kernel
theorem dX11_isStuck_11 : decode cX11_isStuck 11 = .ok (.ifCond .lt 16, 3) := by decide +kernel
theorem dX11_isStuck_14 : decode cX11_isStuck 14 = .ok (.aload_n 0, 1) := by decide +kernel
theorem dX11_isStuck_15 : decode cX11_isStuck 15 = .ok (.iload_n 2, 1) := by decide +kernel
theorem dX11_isStuck_16 : decode cX11_isStuck 16 = .ok (.invokevirtual 293, 3) := by decide +kernel
theorem dX11_isStuck_19 : decode cX11_isStuck 19 = .ok (.aload_n 0, 1) := by decide +kernel
theorem dX11_isStuck_20 : decode cX11_isStuck 20 = .ok (.invokevirtual 290, 3) := by decide +kernel
theorem dX11_isStuck_23 : decode cX11_isStuck 23 = .ok (.istore_n 2, 1) := by decide +kernel
theorem dX11_isStuck_24 : decode cX11_isStuck 24 = .ok (.goto (-14), 3) := by decide +kernel
theorem dX11_isStuck_27 : decode cX11_isStuck 27 = .ok (.aload_n 0, 1) := by decide +kernel
theorem dX11_isStuck_28 : decode cX11_isStuck 28 = .ok (.invokevirtual 297, 3) := by decide +kernel
theorem dX11_isStuck_31 : decode cX11_isStuck 31 = .ok (.ifCond .lt 7, 3) := by decide +kernel
theorem dX11_isStuck_34 : decode cX11_isStuck 34 = .ok (.iconst 1, 1) := by decide +kernel
theorem dX11_isStuck_35 : decode cX11_isStuck 35 = .ok (.goto 4, 3) := by decide +kernel
theorem dX11_isStuck_38 : decode cX11_isStuck 38 = .ok (.iconst 0, 1) := by decide +kernel
theorem dX11_isStuck_39 : decode cX11_isStuck 39 = .ok (.ireturn, 1) := by decide +kernel
theorem dX11_barred_0 : decode cX11_barred 0 = .ok (.aload_n 0, 1) := by decide +kernel
theorem dX11_barred_1 : decode cX11_barred 1 = .ok (.getfield 202, 3) := by decide +kernel
theorem dX11_barred_4 : decode cX11_barred 4 = .ok (.ifCond .ne 6, 3) := by decide +kernel
theorem dX11_barred_7 : decode cX11_barred 7 = .ok (.bipush (-4), 2) := by decide +kernel
theorem dX11_barred_9 : decode cX11_barred 9 = .ok (.ireturn, 1) := by decide +kernel
theorem dX11_barred_10 : decode cX11_barred 10 = .ok (.aload_n 0, 1) := by decide +kernel
theorem dX11_barred_11 : decode cX11_barred 11 = .ok (.invokevirtual 280, 3) := by decide +kernel
theorem dX11_barred_14 : decode cX11_barred 14 = .ok (.istore_n 2, 1) := by decide +kernel
theorem dX11_barred_15 : decode cX11_barred 15 = .ok (.iload_n 2, 1) := by decide +kernel
theorem dX11_barred_16 : decode cX11_barred 16 = .ok (.bipush (-9), 2) := by decide +kernel
theorem dX11_barred_18 : decode cX11_barred 18 = .ok (.if_icmp .ne 6, 3) := by decide +kernel
theorem dX11_barred_21 : decode cX11_barred 21 = .ok (.bipush (-4), 2) := by decide +kernel
theorem dX11_barred_23 : decode cX11_barred 23 = .ok (.ireturn, 1) := by decide +kernel
theorem dX11_barred_24 : decode cX11_barred 24 = .ok (.iload_n 2, 1) := by decide +kernel
theorem dX11_barred_25 : decode cX11_barred 25 = .ok (.bipush (-6), 2) := by decide +kernel
theorem dX11_barred_27 : decode cX11_barred 27 = .ok (.if_icmp .ne 8, 3) := by decide +kernel
theorem dX11_barred_30 : decode cX11_barred 30 = .ok (.bipush (-6), 2) := by decide +kernel
theorem dX11_barred_32 : decode cX11_barred 32 = .ok (.goto 21, 3) := by decide +kernel
theorem dX11_barred_35 : decode cX11_barred 35 = .ok (.iload_n 1, 1) := by decide +kernel
theorem dX11_barred_36 : decode cX11_barred 36 = .ok (.ifCond .eq 16, 3) := by decide +kernel
theorem dX11_barred_39 : decode cX11_barred 39 = .ok (.aload_n 0, 1) := by decide +kernel
theorem dX11_barred_40 : decode cX11_barred 40 = .ok (.iconst 0, 1) := by decide +kernel
theorem dX11_barred_41 : decode cX11_barred 41 = .ok (.invokevirtual 300, 3) := by decide +kernel
theorem dX11_barred_44 : decode cX11_barred 44 = .ok (.ifCond .eq 8, 3) := by decide +kernel
theorem dX11_barred_47 : decode cX11_barred 47 = .ok (.bipush (-4), 2) := by decide +kernel
theorem dX11_barred_49 : decode cX11_barred 49 = .ok (.goto 4, 3) := by decide +kernel
theorem dX11_barred_52 : decode cX11_barred 52 = .ok (.iconst 0, 1) := by decide +kernel
theorem dX11_barred_53 : decode cX11_barred 53 = .ok (.ireturn, 1) := by decide +kernel
theorem dX11_stuck_0 : decode cX11_stuck 0 = .ok (.aload_n 0, 1) := by decide +kernel
theorem dX11_stuck_1 : decode cX11_stuck 1 = .ok (.iconst 0, 1) := by decide +kernel
theorem dX11_stuck_2 : decode cX11_stuck 2 = .ok (.invokevirtual 304, 3) := by decide +kernel
theorem dX11_stuck_5 : decode cX11_stuck 5 = .ok (.istore_n 1, 1) := by decide +kernel
theorem dX11_stuck_6 : decode cX11_stuck 6 = .ok (.iload_n 1, 1) := by decide +kernel
theorem dX11_stuck_7 : decode cX11_stuck 7 = .ok (.ifCond .ge 7, 3) := by decide +kernel
theorem dX11_stuck_10 : decode cX11_stuck 10 = .ok (.iload_n 1, 1) := by decide +kernel
theorem dX11_stuck_11 : decode cX11_stuck 11 = .ok (.goto 16, 3) := by decide +kernel
theorem dX11_stuck_14 : decode cX11_stuck 14 = .ok (.aload_n 0, 1) := by decide +kernel
theorem dX11_stuck_15 : decode cX11_stuck 15 = .ok (.iconst 0, 1) := by decide +kernel
theorem dX11_stuck_16 : decode cX11_stuck 16 = .ok (.invokevirtual 300, 3) := by decide +kernel
theorem dX11_stuck_19 : decode cX11_stuck 19 = .ok (.ifCond .eq 7, 3) := by decide +kernel
theorem dX11_stuck_22 : decode cX11_stuck 22 = .ok (.iconst 1, 1) := by decide +kernel
theorem dX11_stuck_23 : decode cX11_stuck 23 = .ok (.goto 4, 3) := by decide +kernel
theorem dX11_stuck_26 : decode cX11_stuck 26 = .ok (.iconst 0, 1) := by decide +kernel
theorem dX11_stuck_27 : decode cX11_stuck 27 = .ok (.ireturn, 1) := by decide +kernel
theorem dX11_lacks_0 : decode cX11_lacks 0 = .ok (.aload_n 0, 1) := by decide +kernel
theorem dX11_lacks_1 : decode cX11_lacks 1 = .ok (.iload_n 1, 1) := by decide +kernel
theorem dX11_lacks_2 : decode cX11_lacks 2 = .ok (.invokevirtual 232, 3) := by decide +kernel
theorem dX11_lacks_5 : decode cX11_lacks 5 = .ok (.ifCond .ne 5, 3) := by decide +kernel
theorem dX11_lacks_8 : decode cX11_lacks 8 = .ok (.iconst (-1), 1) := by decide +kernel
theorem dX11_lacks_9 : decode cX11_lacks 9 = .ok (.ireturn, 1) := by decide +kernel
theorem dX11_lacks_10 : decode cX11_lacks 10 = .ok (.aload_n 0, 1) := by decide +kernel
theorem dX11_lacks_11 : decode cX11_lacks 11 = .ok (.iconst 0, 1) := by decide +kernel
theorem dX11_lacks_12 : decode cX11_lacks 12 = .ok (.invokevirtual 304, 3) := by decide +kernel
theorem dX11_lacks_15 : decode cX11_lacks 15 = .ok (.istore_n 2, 1) := by decide +kernel
theorem dX11_lacks_16 : decode cX11_lacks 16 = .ok (.iload_n 2, 1) := by decide +kernel
theorem dX11_lacks_17 : decode cX11_lacks 17 = .ok (.ifCond .ge 5, 3) := by decide +kernel
theorem dX11_lacks_20 : decode cX11_lacks 20 = .ok (.iload_n 2, 1) := by decide +kernel
theorem dX11_lacks_21 : decode cX11_lacks 21 = .ok (.ireturn, 1) := by decide +kernel
theorem dX11_lacks_22 : decode cX11_lacks 22 = .ok (.iconst 0, 1) := by decide +kernel
theorem dX11_lacks_23 : decode cX11_lacks 23 = .ok (.istore_n 3, 1) := by decide +kernel
theorem dX11_lacks_24 : decode cX11_lacks 24 = .ok (.iload_n 3, 1) := by decide +kernel
theorem dX11_lacks_25 : decode cX11_lacks 25 = .ok (.aload_n 0, 1) := by decide +kernel
theorem dX11_lacks_26 : decode cX11_lacks 26 = .ok (.getfield 209, 3) := by decide +kernel
theorem dX11_lacks_29 : decode cX11_lacks 29 = .ok (.if_icmp .ge 16, 3) := by decide +kernel
theorem dX11_lacks_32 : decode cX11_lacks 32 = .ok (.aload_n 0, 1) := by decide +kernel
theorem dX11_lacks_33 : decode cX11_lacks 33 = .ok (.getfield 107, 3) := by decide +kernel
theorem dX11_lacks_36 : decode cX11_lacks 36 = .ok (.iload_n 3, 1) := by decide +kernel
theorem dX11_lacks_37 : decode cX11_lacks 37 = .ok (.iconst 0, 1) := by decide +kernel
theorem dX11_lacks_38 : decode cX11_lacks 38 = .ok (.iastore, 1) := by decide +kernel
theorem dX11_lacks_39 : decode cX11_lacks 39 = .ok (.iinc 3 1, 3) := by decide +kernel
theorem dX11_lacks_42 : decode cX11_lacks 42 = .ok (.goto (-18), 3) := by decide +kernel
theorem dX11_lacks_45 : decode cX11_lacks 45 = .ok (.aload_n 0, 1) := by decide +kernel
theorem dX11_lacks_46 : decode cX11_lacks 46 = .ok (.iconst 0, 1) := by decide +kernel
theorem dX11_lacks_47 : decode cX11_lacks 47 = .ok (.invokevirtual 286, 3) := by decide +kernel
theorem dX11_lacks_50 : decode cX11_lacks 50 = .ok (.aload_n 0, 1) := by decide +kernel
theorem dX11_lacks_51 : decode cX11_lacks 51 = .ok (.invokevirtual 297, 3) := by decide +kernel
theorem dX11_lacks_54 : decode cX11_lacks 54 = .ok (.ifCond .lt 31, 3) := by decide +kernel
theorem dX11_lacks_57 : decode cX11_lacks 57 = .ok (.aload_n 0, 1) := by decide +kernel
theorem dX11_lacks_58 : decode cX11_lacks 58 = .ok (.invokevirtual 290, 3) := by decide +kernel
theorem dX11_lacks_61 : decode cX11_lacks 61 = .ok (.istore_n 3, 1) := by decide +kernel
theorem dX11_lacks_62 : decode cX11_lacks 62 = .ok (.iload_n 3, 1) := by decide +kernel
theorem dX11_lacks_63 : decode cX11_lacks 63 = .ok (.ifCond .lt 11, 3) := by decide +kernel
theorem dX11_lacks_66 : decode cX11_lacks 66 = .ok (.aload_n 0, 1) := by decide +kernel
theorem dX11_lacks_67 : decode cX11_lacks 67 = .ok (.iload_n 3, 1) := by decide +kernel
theorem dX11_lacks_68 : decode cX11_lacks 68 = .ok (.invokevirtual 293, 3) := by decide +kernel
theorem dX11_lacks_71 : decode cX11_lacks 71 = .ok (.goto 11, 3) := by decide +kernel
theorem dX11_lacks_74 : decode cX11_lacks 74 = .ok (.aload_n 0, 1) := by decide +kernel
theorem dX11_lacks_75 : decode cX11_lacks 75 = .ok (.aload_n 0, 1) := by decide +kernel
theorem dX11_lacks_76 : decode cX11_lacks 76 = .ok (.invokevirtual 297, 3) := by decide +kernel
theorem dX11_lacks_79 : decode cX11_lacks 79 = .ok (.invokevirtual 308, 3) := by decide +kernel
theorem dX11_lacks_82 : decode cX11_lacks 82 = .ok (.goto (-32), 3) := by decide +kernel
theorem dX11_lacks_85 : decode cX11_lacks 85 = .ok (.iconst 0, 1) := by decide +kernel
theorem dX11_lacks_86 : decode cX11_lacks 86 = .ok (.istore_n 3, 1) := by decide +kernel
theorem dX11_lacks_87 : decode cX11_lacks 87 = .ok (.iload_n 3, 1) := by decide +kernel
theorem dX11_lacks_88 : decode cX11_lacks 88 = .ok (.aload_n 0, 1) := by decide +kernel
theorem dX11_lacks_89 : decode cX11_lacks 89 = .ok (.getfield 209, 3) := by decide +kernel
theorem dX11_lacks_92 : decode cX11_lacks 92 = .ok (.if_icmp .ge 60, 3) := by decide +kernel
theorem dX11_lacks_95 : decode cX11_lacks 95 = .ok (.iconst 1, 1) := by decide +kernel
theorem dX11_lacks_96 : decode cX11_lacks 96 = .ok (.istore 4, 2) := by decide +kernel
theorem dX11_lacks_98 : decode cX11_lacks 98 = .ok (.iload 4, 2) := by decide +kernel
theorem dX11_lacks_100 : decode cX11_lacks 100 = .ok (.ifCond .eq 46, 3) := by decide +kernel
theorem dX11_lacks_103 : decode cX11_lacks 103 = .ok (.aload_n 0, 1) := by decide +kernel
theorem dX11_lacks_104 : decode cX11_lacks 104 = .ok (.getfield 107, 3) := by decide +kernel
theorem dX11_lacks_107 : decode cX11_lacks 107 = .ok (.iload_n 3, 1) := by decide +kernel
theorem dX11_lacks_108 : decode cX11_lacks 108 = .ok (.iaload, 1) := by decide +kernel
theorem dX11_lacks_109 : decode cX11_lacks 109 = .ok (.ifCond .le 37, 3) := by decide +kernel
theorem dX11_lacks_112 : decode cX11_lacks 112 = .ok (.aload_n 0, 1) := by decide +kernel
theorem dX11_lacks_113 : decode cX11_lacks 113 = .ok (.getfield 107, 3) := by decide +kernel
theorem dX11_lacks_116 : decode cX11_lacks 116 = .ok (.iload_n 3, 1) := by decide +kernel
theorem dX11_lacks_117 : decode cX11_lacks 117 = .ok (.dup2, 1) := by decide +kernel
theorem dX11_lacks_118 : decode cX11_lacks 118 = .ok (.iaload, 1) := by decide +kernel
theorem dX11_lacks_119 : decode cX11_lacks 119 = .ok (.iconst 1, 1) := by decide +kernel
theorem dX11_lacks_120 : decode cX11_lacks 120 = .ok (.isub, 1) := by decide +kernel
theorem dX11_lacks_121 : decode cX11_lacks 121 = .ok (.iastore, 1) := by decide +kernel
theorem dX11_lacks_122 : decode cX11_lacks 122 = .ok (.aload_n 0, 1) := by decide +kernel
theorem dX11_lacks_123 : decode cX11_lacks 123 = .ok (.iconst 1, 1) := by decide +kernel
theorem dX11_lacks_124 : decode cX11_lacks 124 = .ok (.invokevirtual 300, 3) := by decide +kernel
theorem dX11_lacks_127 : decode cX11_lacks 127 = .ok (.ifCond .eq (-29), 3) := by decide +kernel
theorem dX11_lacks_130 : decode cX11_lacks 130 = .ok (.aload_n 0, 1) := by decide +kernel
theorem dX11_lacks_131 : decode cX11_lacks 131 = .ok (.getfield 107, 3) := by decide +kernel
theorem dX11_lacks_134 : decode cX11_lacks 134 = .ok (.iload_n 3, 1) := by decide +kernel
theorem dX11_lacks_135 : decode cX11_lacks 135 = .ok (.dup2, 1) := by decide +kernel
theorem dX11_lacks_136 : decode cX11_lacks 136 = .ok (.iaload, 1) := by decide +kernel
theorem dX11_lacks_137 : decode cX11_lacks 137 = .ok (.iconst 1, 1) := by decide +kernel
theorem dX11_lacks_138 : decode cX11_lacks 138 = .ok (.iadd, 1) := by decide +kernel
theorem dX11_lacks_139 : decode cX11_lacks 139 = .ok (.iastore, 1) := by decide +kernel
theorem dX11_lacks_140 : decode cX11_lacks 140 = .ok (.iconst 0, 1) := by decide +kernel
theorem dX11_lacks_141 : decode cX11_lacks 141 = .ok (.istore 4, 2) := by decide +kernel
theorem dX11_lacks_143 : decode cX11_lacks 143 = .ok (.goto (-45), 3) := by decide +kernel
theorem dX11_lacks_146 : decode cX11_lacks 146 = .ok (.iinc 3 1, 3) := by decide +kernel
theorem dX11_lacks_149 : decode cX11_lacks 149 = .ok (.goto (-62), 3) := by decide +kernel
theorem dX11_lacks_152 : decode cX11_lacks 152 = .ok (.aload_n 0, 1) := by decide +kernel
theorem dX11_lacks_153 : decode cX11_lacks 153 = .ok (.getfield 107, 3) := by decide +kernel
theorem dX11_lacks_156 : decode cX11_lacks 156 = .ok (.iload_n 1, 1) := by decide +kernel
theorem dX11_lacks_157 : decode cX11_lacks 157 = .ok (.iaload, 1) := by decide +kernel
theorem dX11_lacks_158 : decode cX11_lacks 158 = .ok (.ireturn, 1) := by decide +kernel
theorem dX11_supply_0 : decode cX11_supply 0 = .ok (.iconst 0, 1) := by decide +kernel
theorem dX11_supply_1 : decode cX11_supply 1 = .ok (.istore_n 2, 1) := by decide +kernel
theorem dX11_supply_2 : decode cX11_supply 2 = .ok (.iload_n 2, 1) := by decide +kernel
theorem dX11_supply_3 : decode cX11_supply 3 = .ok (.aload_n 0, 1) := by decide +kernel
theorem dX11_supply_4 : decode cX11_supply 4 = .ok (.getfield 209, 3) := by decide +kernel
theorem dX11_supply_7 : decode cX11_supply 7 = .ok (.if_icmp .ge 70, 3) := by decide +kernel
theorem dX11_supply_10 : decode cX11_supply 10 = .ok (.aload_n 0, 1) := by decide +kernel
theorem dX11_supply_11 : decode cX11_supply 11 = .ok (.getfield 44, 3) := by decide +kernel
theorem dX11_supply_14 : decode cX11_supply 14 = .ok (.iload_n 2, 1) := by decide +kernel
theorem dX11_supply_15 : decode cX11_supply 15 = .ok (.iaload, 1) := by decide +kernel
theorem dX11_supply_16 : decode cX11_supply 16 = .ok (.iload_n 1, 1) := by decide +kernel
theorem dX11_supply_17 : decode cX11_supply 17 = .ok (.if_icmp .ne 28, 3) := by decide +kernel
theorem dX11_supply_20 : decode cX11_supply 20 = .ok (.aload_n 0, 1) := by decide +kernel
theorem dX11_supply_21 : decode cX11_supply 21 = .ok (.getfield 50, 3) := by decide +kernel
theorem dX11_supply_24 : decode cX11_supply 24 = .ok (.iconst 4, 1) := by decide +kernel
theorem dX11_supply_25 : decode cX11_supply 25 = .ok (.iload_n 2, 1) := by decide +kernel
theorem dX11_supply_26 : decode cX11_supply 26 = .ok (.imul, 1) := by decide +kernel
theorem dX11_supply_27 : decode cX11_supply 27 = .ok (.aload_n 0, 1) := by decide +kernel
theorem dX11_supply_28 : decode cX11_supply 28 = .ok (.getfield 101, 3) := by decide +kernel
theorem dX11_supply_31 : decode cX11_supply 31 = .ok (.iload_n 1, 1) := by decide +kernel
theorem dX11_supply_32 : decode cX11_supply 32 = .ok (.iaload, 1) := by decide +kernel
theorem dX11_supply_33 : decode cX11_supply 33 = .ok (.iadd, 1) := by decide +kernel
theorem dX11_supply_34 : decode cX11_supply 34 = .ok (.iaload, 1) := by decide +kernel
theorem dX11_supply_35 : decode cX11_supply 35 = .ok (.aload_n 0, 1) := by decide +kernel
theorem dX11_supply_36 : decode cX11_supply 36 = .ok (.getfield 98, 3) := by decide +kernel
theorem dX11_supply_39 : decode cX11_supply 39 = .ok (.iload_n 2, 1) := by decide +kernel
theorem dX11_supply_40 : decode cX11_supply 40 = .ok (.iaload, 1) := by decide +kernel
theorem dX11_supply_41 : decode cX11_supply 41 = .ok (.isub, 1) := by decide +kernel
theorem dX11_supply_42 : decode cX11_supply 42 = .ok (.goto 4, 3) := by decide +kernel
theorem dX11_supply_45 : decode cX11_supply 45 = .ok (.iconst 0, 1) := by decide +kernel
theorem dX11_supply_46 : decode cX11_supply 46 = .ok (.istore_n 3, 1) := by decide +kernel
theorem dX11_supply_47 : decode cX11_supply 47 = .ok (.iload_n 3, 1) := by decide +kernel
theorem dX11_supply_48 : decode cX11_supply 48 = .ok (.ifCond .le 23, 3) := by decide +kernel
theorem dX11_supply_51 : decode cX11_supply 51 = .ok (.aload_n 0, 1) := by decide +kernel
theorem dX11_supply_52 : decode cX11_supply 52 = .ok (.getfield 98, 3) := by decide +kernel
theorem dX11_supply_55 : decode cX11_supply 55 = .ok (.iload_n 2, 1) := by decide +kernel
theorem dX11_supply_56 : decode cX11_supply 56 = .ok (.dup2, 1) := by decide +kernel
theorem dX11_supply_57 : decode cX11_supply 57 = .ok (.iaload, 1) := by decide +kernel
theorem dX11_supply_58 : decode cX11_supply 58 = .ok (.iload_n 3, 1) := by decide +kernel
theorem dX11_supply_59 : decode cX11_supply 59 = .ok (.iadd, 1) := by decide +kernel
theorem dX11_supply_60 : decode cX11_supply 60 = .ok (.iastore, 1) := by decide +kernel
theorem dX11_supply_61 : decode cX11_supply 61 = .ok (.aload_n 0, 1) := by decide +kernel
theorem dX11_supply_62 : decode cX11_supply 62 = .ok (.getfield 107, 3) := by decide +kernel
theorem dX11_supply_65 : decode cX11_supply 65 = .ok (.iload_n 2, 1) := by decide +kernel
theorem dX11_supply_66 : decode cX11_supply 66 = .ok (.dup2, 1) := by decide +kernel
theorem dX11_supply_67 : decode cX11_supply 67 = .ok (.iaload, 1) := by decide +kernel
theorem dX11_supply_68 : decode cX11_supply 68 = .ok (.iload_n 3, 1) := by decide +kernel
theorem dX11_supply_69 : decode cX11_supply 69 = .ok (.iadd, 1) := by decide +kernel
theorem dX11_supply_70 : decode cX11_supply 70 = .ok (.iastore, 1) := by decide +kernel
theorem dX11_supply_71 : decode cX11_supply 71 = .ok (.iinc 2 1, 3) := by decide +kernel
theorem dX11_supply_74 : decode cX11_supply 74 = .ok (.goto (-72), 3) := by decide +kernel
theorem dX11_supply_77 : decode cX11_supply 77 = .ok (.return_, 1) := by decide +kernel
theorem dX11_stored_0 : decode cX11_stored 0 = .ok (.iconst 0, 1) := by decide +kernel
theorem dX11_stored_1 : decode cX11_stored 1 = .ok (.istore_n 1, 1) := by decide +kernel
theorem dX11_stored_2 : decode cX11_stored 2 = .ok (.iconst 0, 1) := by decide +kernel
theorem dX11_stored_3 : decode cX11_stored 3 = .ok (.istore_n 2, 1) := by decide +kernel
theorem dX11_stored_4 : decode cX11_stored 4 = .ok (.iload_n 2, 1) := by decide +kernel
theorem dX11_stored_5 : decode cX11_stored 5 = .ok (.aload_n 0, 1) := by decide +kernel
theorem dX11_stored_6 : decode cX11_stored 6 = .ok (.getfield 209, 3) := by decide +kernel
theorem dX11_stored_9 : decode cX11_stored 9 = .ok (.if_icmp .ge 18, 3) := by decide +kernel
theorem dX11_stored_12 : decode cX11_stored 12 = .ok (.iload_n 1, 1) := by decide +kernel
theorem dX11_stored_13 : decode cX11_stored 13 = .ok (.aload_n 0, 1) := by decide +kernel
theorem dX11_stored_14 : decode cX11_stored 14 = .ok (.getfield 123, 3) := by decide +kernel
theorem dX11_stored_17 : decode cX11_stored 17 = .ok (.iload_n 2, 1) := by decide +kernel
theorem dX11_stored_18 : decode cX11_stored 18 = .ok (.iaload, 1) := by decide +kernel
theorem dX11_stored_19 : decode cX11_stored 19 = .ok (.iadd, 1) := by decide +kernel
theorem dX11_stored_20 : decode cX11_stored 20 = .ok (.istore_n 1, 1) := by decide +kernel
theorem dX11_stored_21 : decode cX11_stored 21 = .ok (.iinc 2 1, 3) := by decide +kernel
theorem dX11_stored_24 : decode cX11_stored 24 = .ok (.goto (-20), 3) := by decide +kernel
theorem dX11_stored_27 : decode cX11_stored 27 = .ok (.iload_n 1, 1) := by decide +kernel
theorem dX11_stored_28 : decode cX11_stored 28 = .ok (.ireturn, 1) := by decide +kernel
theorem dX11_storeFirst_0 : decode cX11_storeFirst 0 = .ok (.iconst 0, 1) := by decide +kernel
theorem dX11_storeFirst_1 : decode cX11_storeFirst 1 = .ok (.istore_n 1, 1) := by decide +kernel
theorem dX11_storeFirst_2 : decode cX11_storeFirst 2 = .ok (.iload_n 1, 1) := by decide +kernel
theorem dX11_storeFirst_3 : decode cX11_storeFirst 3 = .ok (.aload_n 0, 1) := by decide +kernel
theorem dX11_storeFirst_4 : decode cX11_storeFirst 4 = .ok (.getfield 209, 3) := by decide +kernel
theorem dX11_storeFirst_7 : decode cX11_storeFirst 7 = .ok (.if_icmp .ge 21, 3) := by decide +kernel
theorem dX11_storeFirst_10 : decode cX11_storeFirst 10 = .ok (.aload_n 0, 1) := by decide +kernel
theorem dX11_storeFirst_11 : decode cX11_storeFirst 11 = .ok (.getfield 123, 3) := by decide +kernel
theorem dX11_storeFirst_14 : decode cX11_storeFirst 14 = .ok (.iload_n 1, 1) := by decide +kernel
theorem dX11_storeFirst_15 : decode cX11_storeFirst 15 = .ok (.aload_n 0, 1) := by decide +kernel
theorem dX11_storeFirst_16 : decode cX11_storeFirst 16 = .ok (.getfield 98, 3) := by decide +kernel
theorem dX11_storeFirst_19 : decode cX11_storeFirst 19 = .ok (.iload_n 1, 1) := by decide +kernel
theorem dX11_storeFirst_20 : decode cX11_storeFirst 20 = .ok (.iaload, 1) := by decide +kernel
theorem dX11_storeFirst_21 : decode cX11_storeFirst 21 = .ok (.iastore, 1) := by decide +kernel
theorem dX11_storeFirst_22 : decode cX11_storeFirst 22 = .ok (.iinc 1 1, 3) := by decide +kernel
theorem dX11_storeFirst_25 : decode cX11_storeFirst 25 = .ok (.goto (-23), 3) := by decide +kernel
theorem dX11_storeFirst_28 : decode cX11_storeFirst 28 = .ok (.return_, 1) := by decide +kernel
theorem dX11_storeMore_0 : decode cX11_storeMore 0 = .ok (.iconst 0, 1) := by decide +kernel
theorem dX11_storeMore_1 : decode cX11_storeMore 1 = .ok (.istore_n 1, 1) := by decide +kernel
theorem dX11_storeMore_2 : decode cX11_storeMore 2 = .ok (.iload_n 1, 1) := by decide +kernel
theorem dX11_storeMore_3 : decode cX11_storeMore 3 = .ok (.aload_n 0, 1) := by decide +kernel
theorem dX11_storeMore_4 : decode cX11_storeMore 4 = .ok (.getfield 209, 3) := by decide +kernel
theorem dX11_storeMore_7 : decode cX11_storeMore 7 = .ok (.if_icmp .ge 45, 3) := by decide +kernel
theorem dX11_storeMore_10 : decode cX11_storeMore 10 = .ok (.aload_n 0, 1) := by decide +kernel
theorem dX11_storeMore_11 : decode cX11_storeMore 11 = .ok (.getfield 123, 3) := by decide +kernel
theorem dX11_storeMore_14 : decode cX11_storeMore 14 = .ok (.iload_n 1, 1) := by decide +kernel
theorem dX11_storeMore_15 : decode cX11_storeMore 15 = .ok (.aload_n 0, 1) := by decide +kernel
theorem dX11_storeMore_16 : decode cX11_storeMore 16 = .ok (.getfield 98, 3) := by decide +kernel
theorem dX11_storeMore_19 : decode cX11_storeMore 19 = .ok (.iload_n 1, 1) := by decide +kernel
theorem dX11_storeMore_20 : decode cX11_storeMore 20 = .ok (.iaload, 1) := by decide +kernel
theorem dX11_storeMore_21 : decode cX11_storeMore 21 = .ok (.aload_n 0, 1) := by decide +kernel
theorem dX11_storeMore_22 : decode cX11_storeMore 22 = .ok (.getfield 123, 3) := by decide +kernel
theorem dX11_storeMore_25 : decode cX11_storeMore 25 = .ok (.iload_n 1, 1) := by decide +kernel
theorem dX11_storeMore_26 : decode cX11_storeMore 26 = .ok (.iaload, 1) := by decide +kernel
theorem dX11_storeMore_27 : decode cX11_storeMore 27 = .ok (.if_icmp .le 12, 3) := by decide +kernel
theorem dX11_storeMore_30 : decode cX11_storeMore 30 = .ok (.aload_n 0, 1) := by decide +kernel
theorem dX11_storeMore_31 : decode cX11_storeMore 31 = .ok (.getfield 98, 3) := by decide +kernel
theorem dX11_storeMore_34 : decode cX11_storeMore 34 = .ok (.iload_n 1, 1) := by decide +kernel
theorem dX11_storeMore_35 : decode cX11_storeMore 35 = .ok (.iaload, 1) := by decide +kernel
theorem dX11_storeMore_36 : decode cX11_storeMore 36 = .ok (.goto 9, 3) := by decide +kernel
theorem dX11_storeMore_39 : decode cX11_storeMore 39 = .ok (.aload_n 0, 1) := by decide +kernel
theorem dX11_storeMore_40 : decode cX11_storeMore 40 = .ok (.getfield 123, 3) := by decide +kernel
theorem dX11_storeMore_43 : decode cX11_storeMore 43 = .ok (.iload_n 1, 1) := by decide +kernel
theorem dX11_storeMore_44 : decode cX11_storeMore 44 = .ok (.iaload, 1) := by decide +kernel
theorem dX11_storeMore_45 : decode cX11_storeMore 45 = .ok (.iastore, 1) := by decide +kernel
theorem dX11_storeMore_46 : decode cX11_storeMore 46 = .ok (.iinc 1 1, 3) := by decide +kernel
theorem dX11_storeMore_49 : decode cX11_storeMore 49 = .ok (.goto (-47), 3) := by decide +kernel
theorem dX11_storeMore_52 : decode cX11_storeMore 52 = .ok (.return_, 1) := by decide +kernel
theorem dX11_settle_0 : decode cX11_settle 0 = .ok (.aload_n 0, 1) := by decide +kernel
theorem dX11_settle_1 : decode cX11_settle 1 = .ok (.iload_n 1, 1) := by decide +kernel
theorem dX11_settle_2 : decode cX11_settle 2 = .ok (.putfield 113, 3) := by decide +kernel
theorem dX11_settle_5 : decode cX11_settle 5 = .ok (.iconst 0, 1) := by decide +kernel
theorem dX11_settle_6 : decode cX11_settle 6 = .ok (.istore_n 2, 1) := by decide +kernel
theorem dX11_settle_7 : decode cX11_settle 7 = .ok (.iload_n 2, 1) := by decide +kernel
theorem dX11_settle_8 : decode cX11_settle 8 = .ok (.iload_n 1, 1) := by decide +kernel
theorem dX11_settle_9 : decode cX11_settle 9 = .ok (.if_icmp .ge 21, 3) := by decide +kernel
theorem dX11_settle_12 : decode cX11_settle 12 = .ok (.aload_n 0, 1) := by decide +kernel
theorem dX11_settle_13 : decode cX11_settle 13 = .ok (.getfield 110, 3) := by decide +kernel
theorem dX11_settle_16 : decode cX11_settle 16 = .ok (.iload_n 2, 1) := by decide +kernel
theorem dX11_settle_17 : decode cX11_settle 17 = .ok (.aload_n 0, 1) := by decide +kernel
theorem dX11_settle_18 : decode cX11_settle 18 = .ok (.getfield 120, 3) := by decide +kernel
theorem dX11_settle_21 : decode cX11_settle 21 = .ok (.iload_n 2, 1) := by decide +kernel
theorem dX11_settle_22 : decode cX11_settle 22 = .ok (.iaload, 1) := by decide +kernel
theorem dX11_settle_23 : decode cX11_settle 23 = .ok (.iastore, 1) := by decide +kernel
theorem dX11_settle_24 : decode cX11_settle 24 = .ok (.iinc 2 1, 3) := by decide +kernel
theorem dX11_settle_27 : decode cX11_settle 27 = .ok (.goto (-20), 3) := by decide +kernel
theorem dX11_settle_30 : decode cX11_settle 30 = .ok (.iconst 0, 1) := by decide +kernel
theorem dX11_settle_31 : decode cX11_settle 31 = .ok (.istore_n 2, 1) := by decide +kernel
theorem dX11_settle_32 : decode cX11_settle 32 = .ok (.iload_n 2, 1) := by decide +kernel
theorem dX11_settle_33 : decode cX11_settle 33 = .ok (.aload_n 0, 1) := by decide +kernel
theorem dX11_settle_34 : decode cX11_settle 34 = .ok (.getfield 209, 3) := by decide +kernel
theorem dX11_settle_37 : decode cX11_settle 37 = .ok (.if_icmp .ge 21, 3) := by decide +kernel
theorem dX11_settle_40 : decode cX11_settle 40 = .ok (.aload_n 0, 1) := by decide +kernel
theorem dX11_settle_41 : decode cX11_settle 41 = .ok (.getfield 117, 3) := by decide +kernel
theorem dX11_settle_44 : decode cX11_settle 44 = .ok (.iload_n 2, 1) := by decide +kernel
theorem dX11_settle_45 : decode cX11_settle 45 = .ok (.aload_n 0, 1) := by decide +kernel
theorem dX11_settle_46 : decode cX11_settle 46 = .ok (.getfield 123, 3) := by decide +kernel
theorem dX11_settle_49 : decode cX11_settle 49 = .ok (.iload_n 2, 1) := by decide +kernel
theorem dX11_settle_50 : decode cX11_settle 50 = .ok (.iaload, 1) := by decide +kernel
theorem dX11_settle_51 : decode cX11_settle 51 = .ok (.iastore, 1) := by decide +kernel
theorem dX11_settle_52 : decode cX11_settle 52 = .ok (.iinc 2 1, 3) := by decide +kernel
theorem dX11_settle_55 : decode cX11_settle 55 = .ok (.goto (-23), 3) := by decide +kernel
theorem dX11_settle_58 : decode cX11_settle 58 = .ok (.aload_n 0, 1) := by decide +kernel
theorem dX11_settle_59 : decode cX11_settle 59 = .ok (.invokevirtual 215, 3) := by decide +kernel
theorem dX11_settle_62 : decode cX11_settle 62 = .ok (.aload_n 0, 1) := by decide +kernel
theorem dX11_settle_63 : decode cX11_settle 63 = .ok (.invokevirtual 311, 3) := by decide +kernel
theorem dX11_settle_66 : decode cX11_settle 66 = .ok (.ireturn, 1) := by decide +kernel
theorem dX11_growth_0 : decode cX11_growth 0 = .ok (.iconst 0, 1) := by decide +kernel
theorem dX11_growth_1 : decode cX11_growth 1 = .ok (.istore_n 2, 1) := by decide +kernel
theorem dX11_growth_2 : decode cX11_growth 2 = .ok (.iconst 0, 1) := by decide +kernel
theorem dX11_growth_3 : decode cX11_growth 3 = .ok (.istore_n 3, 1) := by decide +kernel
theorem dX11_growth_4 : decode cX11_growth 4 = .ok (.iload_n 3, 1) := by decide +kernel
theorem dX11_growth_5 : decode cX11_growth 5 = .ok (.aload_n 0, 1) := by decide +kernel
theorem dX11_growth_6 : decode cX11_growth 6 = .ok (.getfield 209, 3) := by decide +kernel
theorem dX11_growth_9 : decode cX11_growth 9 = .ok (.if_icmp .ge 71, 3) := by decide +kernel
theorem dX11_growth_12 : decode cX11_growth 12 = .ok (.iload_n 2, 1) := by decide +kernel
theorem dX11_growth_13 : decode cX11_growth 13 = .ok (.aload_n 0, 1) := by decide +kernel
theorem dX11_growth_14 : decode cX11_growth 14 = .ok (.getfield 41, 3) := by decide +kernel
theorem dX11_growth_17 : decode cX11_growth 17 = .ok (.iload_n 3, 1) := by decide +kernel
theorem dX11_growth_18 : decode cX11_growth 18 = .ok (.iaload, 1) := by decide +kernel
theorem dX11_growth_19 : decode cX11_growth 19 = .ok (.iload_n 1, 1) := by decide +kernel
theorem dX11_growth_20 : decode cX11_growth 20 = .ok (.if_icmp .ne 21, 3) := by decide +kernel
theorem dX11_growth_23 : decode cX11_growth 23 = .ok (.aload_n 0, 1) := by decide +kernel
theorem dX11_growth_24 : decode cX11_growth 24 = .ok (.getfield 47, 3) := by decide +kernel
theorem dX11_growth_27 : decode cX11_growth 27 = .ok (.iconst 4, 1) := by decide +kernel
theorem dX11_growth_28 : decode cX11_growth 28 = .ok (.iload_n 3, 1) := by decide +kernel
theorem dX11_growth_29 : decode cX11_growth 29 = .ok (.imul, 1) := by decide +kernel
theorem dX11_growth_30 : decode cX11_growth 30 = .ok (.aload_n 0, 1) := by decide +kernel
theorem dX11_growth_31 : decode cX11_growth 31 = .ok (.getfield 101, 3) := by decide +kernel
theorem dX11_growth_34 : decode cX11_growth 34 = .ok (.iload_n 1, 1) := by decide +kernel
theorem dX11_growth_35 : decode cX11_growth 35 = .ok (.iaload, 1) := by decide +kernel
theorem dX11_growth_36 : decode cX11_growth 36 = .ok (.iadd, 1) := by decide +kernel
theorem dX11_growth_37 : decode cX11_growth 37 = .ok (.iaload, 1) := by decide +kernel
theorem dX11_growth_38 : decode cX11_growth 38 = .ok (.goto 4, 3) := by decide +kernel
theorem dX11_growth_41 : decode cX11_growth 41 = .ok (.iconst 0, 1) := by decide +kernel
theorem dX11_growth_42 : decode cX11_growth 42 = .ok (.aload_n 0, 1) := by decide +kernel
theorem dX11_growth_43 : decode cX11_growth 43 = .ok (.getfield 44, 3) := by decide +kernel
theorem dX11_growth_46 : decode cX11_growth 46 = .ok (.iload_n 3, 1) := by decide +kernel
theorem dX11_growth_47 : decode cX11_growth 47 = .ok (.iaload, 1) := by decide +kernel
theorem dX11_growth_48 : decode cX11_growth 48 = .ok (.iload_n 1, 1) := by decide +kernel
theorem dX11_growth_49 : decode cX11_growth 49 = .ok (.if_icmp .ne 21, 3) := by decide +kernel
theorem dX11_growth_52 : decode cX11_growth 52 = .ok (.aload_n 0, 1) := by decide +kernel
theorem dX11_growth_53 : decode cX11_growth 53 = .ok (.getfield 50, 3) := by decide +kernel
theorem dX11_growth_56 : decode cX11_growth 56 = .ok (.iconst 4, 1) := by decide +kernel
theorem dX11_growth_57 : decode cX11_growth 57 = .ok (.iload_n 3, 1) := by decide +kernel
theorem dX11_growth_58 : decode cX11_growth 58 = .ok (.imul, 1) := by decide +kernel
theorem dX11_growth_59 : decode cX11_growth 59 = .ok (.aload_n 0, 1) := by decide +kernel
theorem dX11_growth_60 : decode cX11_growth 60 = .ok (.getfield 101, 3) := by decide +kernel
theorem dX11_growth_63 : decode cX11_growth 63 = .ok (.iload_n 1, 1) := by decide +kernel
theorem dX11_growth_64 : decode cX11_growth 64 = .ok (.iaload, 1) := by decide +kernel
theorem dX11_growth_65 : decode cX11_growth 65 = .ok (.iadd, 1) := by decide +kernel
theorem dX11_growth_66 : decode cX11_growth 66 = .ok (.iaload, 1) := by decide +kernel
theorem dX11_growth_67 : decode cX11_growth 67 = .ok (.goto 4, 3) := by decide +kernel
theorem dX11_growth_70 : decode cX11_growth 70 = .ok (.iconst 0, 1) := by decide +kernel
theorem dX11_growth_71 : decode cX11_growth 71 = .ok (.isub, 1) := by decide +kernel
theorem dX11_growth_72 : decode cX11_growth 72 = .ok (.iadd, 1) := by decide +kernel
theorem dX11_growth_73 : decode cX11_growth 73 = .ok (.istore_n 2, 1) := by decide +kernel
theorem dX11_growth_74 : decode cX11_growth 74 = .ok (.iinc 3 1, 3) := by decide +kernel
theorem dX11_growth_77 : decode cX11_growth 77 = .ok (.goto (-73), 3) := by decide +kernel
theorem dX11_growth_80 : decode cX11_growth 80 = .ok (.iload_n 2, 1) := by decide +kernel
theorem dX11_growth_81 : decode cX11_growth 81 = .ok (.ireturn, 1) := by decide +kernel
theorem dX11_chosen_0 : decode cX11_chosen 0 = .ok (.bipush (-9), 2) := by decide +kernel
theorem dX11_chosen_2 : decode cX11_chosen 2 = .ok (.istore_n 2, 1) := by decide +kernel
theorem dX11_chosen_3 : decode cX11_chosen 3 = .ok (.iconst 0, 1) := by decide +kernel
theorem dX11_chosen_4 : decode cX11_chosen 4 = .ok (.istore_n 3, 1) := by decide +kernel
theorem dX11_chosen_5 : decode cX11_chosen 5 = .ok (.iload_n 3, 1) := by decide +kernel
theorem dX11_chosen_6 : decode cX11_chosen 6 = .ok (.aload_n 0, 1) := by decide +kernel
theorem dX11_chosen_7 : decode cX11_chosen 7 = .ok (.getfield 202, 3) := by decide +kernel
theorem dX11_chosen_10 : decode cX11_chosen 10 = .ok (.if_icmp .ge 86, 3) := by decide +kernel
theorem dX11_chosen_13 : decode cX11_chosen 13 = .ok (.aload_n 0, 1) := by decide +kernel
theorem dX11_chosen_14 : decode cX11_chosen 14 = .ok (.getfield 104, 3) := by decide +kernel
theorem dX11_chosen_17 : decode cX11_chosen 17 = .ok (.iload_n 3, 1) := by decide +kernel
theorem dX11_chosen_18 : decode cX11_chosen 18 = .ok (.iaload, 1) := by decide +kernel
theorem dX11_chosen_19 : decode cX11_chosen 19 = .ok (.ifCond .le 71, 3) := by decide +kernel
theorem dX11_chosen_22 : decode cX11_chosen 22 = .ok (.aload_n 0, 1) := by decide +kernel
theorem dX11_chosen_23 : decode cX11_chosen 23 = .ok (.iload_n 3, 1) := by decide +kernel
theorem dX11_chosen_24 : decode cX11_chosen 24 = .ok (.invokevirtual 283, 3) := by decide +kernel
theorem dX11_chosen_27 : decode cX11_chosen 27 = .ok (.ifCond .eq 63, 3) := by decide +kernel
theorem dX11_chosen_30 : decode cX11_chosen 30 = .ok (.iload_n 2, 1) := by decide +kernel
theorem dX11_chosen_31 : decode cX11_chosen 31 = .ok (.ifCond .lt 41, 3) := by decide +kernel
theorem dX11_chosen_34 : decode cX11_chosen 34 = .ok (.iload_n 1, 1) := by decide +kernel
theorem dX11_chosen_35 : decode cX11_chosen 35 = .ok (.iconst 1, 1) := by decide +kernel
theorem dX11_chosen_36 : decode cX11_chosen 36 = .ok (.if_icmp .ne 16, 3) := by decide +kernel
theorem dX11_chosen_39 : decode cX11_chosen 39 = .ok (.aload_n 0, 1) := by decide +kernel
theorem dX11_chosen_40 : decode cX11_chosen 40 = .ok (.iload_n 3, 1) := by decide +kernel
theorem dX11_chosen_41 : decode cX11_chosen 41 = .ok (.invokevirtual 314, 3) := by decide +kernel
theorem dX11_chosen_44 : decode cX11_chosen 44 = .ok (.aload_n 0, 1) := by decide +kernel
theorem dX11_chosen_45 : decode cX11_chosen 45 = .ok (.iload_n 2, 1) := by decide +kernel
theorem dX11_chosen_46 : decode cX11_chosen 46 = .ok (.invokevirtual 314, 3) := by decide +kernel
theorem dX11_chosen_49 : decode cX11_chosen 49 = .ok (.if_icmp .lt 23, 3) := by decide +kernel
theorem dX11_chosen_52 : decode cX11_chosen 52 = .ok (.iload_n 1, 1) := by decide +kernel
theorem dX11_chosen_53 : decode cX11_chosen 53 = .ok (.iconst 2, 1) := by decide +kernel
theorem dX11_chosen_54 : decode cX11_chosen 54 = .ok (.if_icmp .ne 22, 3) := by decide +kernel
theorem dX11_chosen_57 : decode cX11_chosen 57 = .ok (.aload_n 0, 1) := by decide +kernel
theorem dX11_chosen_58 : decode cX11_chosen 58 = .ok (.getfield 126, 3) := by decide +kernel
theorem dX11_chosen_61 : decode cX11_chosen 61 = .ok (.iload_n 3, 1) := by decide +kernel
theorem dX11_chosen_62 : decode cX11_chosen 62 = .ok (.iaload, 1) := by decide +kernel
theorem dX11_chosen_63 : decode cX11_chosen 63 = .ok (.aload_n 0, 1) := by decide +kernel
theorem dX11_chosen_64 : decode cX11_chosen 64 = .ok (.getfield 126, 3) := by decide +kernel
theorem dX11_chosen_67 : decode cX11_chosen 67 = .ok (.iload_n 2, 1) := by decide +kernel
theorem dX11_chosen_68 : decode cX11_chosen 68 = .ok (.iaload, 1) := by decide +kernel
theorem dX11_chosen_69 : decode cX11_chosen 69 = .ok (.if_icmp .ge 7, 3) := by decide +kernel
theorem dX11_chosen_72 : decode cX11_chosen 72 = .ok (.iconst 1, 1) := by decide +kernel
theorem dX11_chosen_73 : decode cX11_chosen 73 = .ok (.goto 4, 3) := by decide +kernel
theorem dX11_chosen_76 : decode cX11_chosen 76 = .ok (.iconst 0, 1) := by decide +kernel
theorem dX11_chosen_77 : decode cX11_chosen 77 = .ok (.istore 4, 2) := by decide +kernel
theorem dX11_chosen_79 : decode cX11_chosen 79 = .ok (.iload 4, 2) := by decide +kernel
theorem dX11_chosen_81 : decode cX11_chosen 81 = .ok (.ifCond .eq 7, 3) := by decide +kernel
theorem dX11_chosen_84 : decode cX11_chosen 84 = .ok (.iload_n 3, 1) := by decide +kernel
theorem dX11_chosen_85 : decode cX11_chosen 85 = .ok (.goto 4, 3) := by decide +kernel
theorem dX11_chosen_88 : decode cX11_chosen 88 = .ok (.iload_n 2, 1) := by decide +kernel
theorem dX11_chosen_89 : decode cX11_chosen 89 = .ok (.istore_n 2, 1) := by decide +kernel
theorem dX11_chosen_90 : decode cX11_chosen 90 = .ok (.iinc 3 1, 3) := by decide +kernel
theorem dX11_chosen_93 : decode cX11_chosen 93 = .ok (.goto (-88), 3) := by decide +kernel
theorem dX11_chosen_96 : decode cX11_chosen 96 = .ok (.iload_n 2, 1) := by decide +kernel
theorem dX11_chosen_97 : decode cX11_chosen 97 = .ok (.ireturn, 1) := by decide +kernel
theorem dX11_schedule_0 : decode cX11_schedule 0 = .ok (.iload_n 1, 1) := by decide +kernel
theorem dX11_schedule_1 : decode cX11_schedule 1 = .ok (.iconst 0, 1) := by decide +kernel
theorem dX11_schedule_2 : decode cX11_schedule 2 = .ok (.iconst 2, 1) := by decide +kernel
theorem dX11_schedule_3 : decode cX11_schedule 3 = .ok (.invokestatic 205, 3) := by decide +kernel
theorem dX11_schedule_6 : decode cX11_schedule 6 = .ok (.ifCond .ne 5, 3) := by decide +kernel
theorem dX11_schedule_9 : decode cX11_schedule 9 = .ok (.iconst (-1), 1) := by decide +kernel
theorem dX11_schedule_10 : decode cX11_schedule 10 = .ok (.ireturn, 1) := by decide +kernel
theorem dX11_schedule_11 : decode cX11_schedule 11 = .ok (.aload_n 0, 1) := by decide +kernel
theorem dX11_schedule_12 : decode cX11_schedule 12 = .ok (.iconst 1, 1) := by decide +kernel
theorem dX11_schedule_13 : decode cX11_schedule 13 = .ok (.invokevirtual 304, 3) := by decide +kernel
theorem dX11_schedule_16 : decode cX11_schedule 16 = .ok (.istore_n 2, 1) := by decide +kernel
theorem dX11_schedule_17 : decode cX11_schedule 17 = .ok (.iload_n 2, 1) := by decide +kernel
theorem dX11_schedule_18 : decode cX11_schedule 18 = .ok (.ifCond .ge 5, 3) := by decide +kernel
theorem dX11_schedule_21 : decode cX11_schedule 21 = .ok (.iload_n 2, 1) := by decide +kernel
theorem dX11_schedule_22 : decode cX11_schedule 22 = .ok (.ireturn, 1) := by decide +kernel
theorem dX11_schedule_23 : decode cX11_schedule 23 = .ok (.aload_n 0, 1) := by decide +kernel
theorem dX11_schedule_24 : decode cX11_schedule 24 = .ok (.iconst 0, 1) := by decide +kernel
theorem dX11_schedule_25 : decode cX11_schedule 25 = .ok (.invokevirtual 286, 3) := by decide +kernel
theorem dX11_schedule_28 : decode cX11_schedule 28 = .ok (.aload_n 0, 1) := by decide +kernel
theorem dX11_schedule_29 : decode cX11_schedule 29 = .ok (.invokevirtual 317, 3) := by decide +kernel
theorem dX11_schedule_32 : decode cX11_schedule 32 = .ok (.iconst 0, 1) := by decide +kernel
theorem dX11_schedule_33 : decode cX11_schedule 33 = .ok (.istore_n 3, 1) := by decide +kernel
theorem dX11_schedule_34 : decode cX11_schedule 34 = .ok (.iload_n 3, 1) := by decide +kernel
theorem dX11_schedule_35 : decode cX11_schedule 35 = .ok (.aload_n 0, 1) := by decide +kernel
theorem dX11_schedule_36 : decode cX11_schedule 36 = .ok (.getfield 202, 3) := by decide +kernel
theorem dX11_schedule_39 : decode cX11_schedule 39 = .ok (.if_icmp .ge 16, 3) := by decide +kernel
theorem dX11_schedule_42 : decode cX11_schedule 42 = .ok (.aload_n 0, 1) := by decide +kernel
theorem dX11_schedule_43 : decode cX11_schedule 43 = .ok (.getfield 126, 3) := by decide +kernel
theorem dX11_schedule_46 : decode cX11_schedule 46 = .ok (.iload_n 3, 1) := by decide +kernel
theorem dX11_schedule_47 : decode cX11_schedule 47 = .ok (.iconst (-1), 1) := by decide +kernel
theorem dX11_schedule_48 : decode cX11_schedule 48 = .ok (.iastore, 1) := by decide +kernel
theorem dX11_schedule_49 : decode cX11_schedule 49 = .ok (.iinc 3 1, 3) := by decide +kernel
theorem dX11_schedule_52 : decode cX11_schedule 52 = .ok (.goto (-18), 3) := by decide +kernel
theorem dX11_schedule_55 : decode cX11_schedule 55 = .ok (.iconst 0, 1) := by decide +kernel
theorem dX11_schedule_56 : decode cX11_schedule 56 = .ok (.istore_n 3, 1) := by decide +kernel
theorem dX11_schedule_57 : decode cX11_schedule 57 = .ok (.iload_n 3, 1) := by decide +kernel
theorem dX11_schedule_58 : decode cX11_schedule 58 = .ok (.aload_n 0, 1) := by decide +kernel
theorem dX11_schedule_59 : decode cX11_schedule 59 = .ok (.getfield 273, 3) := by decide +kernel
theorem dX11_schedule_62 : decode cX11_schedule 62 = .ok (.if_icmp .ge 42, 3) := by decide +kernel
theorem dX11_schedule_65 : decode cX11_schedule 65 = .ok (.aload_n 0, 1) := by decide +kernel
theorem dX11_schedule_66 : decode cX11_schedule 66 = .ok (.iload_n 1, 1) := by decide +kernel
theorem dX11_schedule_67 : decode cX11_schedule 67 = .ok (.invokevirtual 320, 3) := by decide +kernel
theorem dX11_schedule_70 : decode cX11_schedule 70 = .ok (.istore 4, 2) := by decide +kernel
theorem dX11_schedule_72 : decode cX11_schedule 72 = .ok (.aload_n 0, 1) := by decide +kernel
theorem dX11_schedule_73 : decode cX11_schedule 73 = .ok (.iload 4, 2) := by decide +kernel
theorem dX11_schedule_75 : decode cX11_schedule 75 = .ok (.invokevirtual 293, 3) := by decide +kernel
theorem dX11_schedule_78 : decode cX11_schedule 78 = .ok (.aload_n 0, 1) := by decide +kernel
theorem dX11_schedule_79 : decode cX11_schedule 79 = .ok (.getfield 126, 3) := by decide +kernel
theorem dX11_schedule_82 : decode cX11_schedule 82 = .ok (.iload 4, 2) := by decide +kernel
theorem dX11_schedule_84 : decode cX11_schedule 84 = .ok (.iload_n 3, 1) := by decide +kernel
theorem dX11_schedule_85 : decode cX11_schedule 85 = .ok (.iastore, 1) := by decide +kernel
theorem dX11_schedule_86 : decode cX11_schedule 86 = .ok (.aload_n 0, 1) := by decide +kernel
theorem dX11_schedule_87 : decode cX11_schedule 87 = .ok (.getfield 120, 3) := by decide +kernel
theorem dX11_schedule_90 : decode cX11_schedule 90 = .ok (.iload_n 3, 1) := by decide +kernel
theorem dX11_schedule_91 : decode cX11_schedule 91 = .ok (.iload 4, 2) := by decide +kernel
theorem dX11_schedule_93 : decode cX11_schedule 93 = .ok (.iastore, 1) := by decide +kernel
theorem dX11_schedule_94 : decode cX11_schedule 94 = .ok (.aload_n 0, 1) := by decide +kernel
theorem dX11_schedule_95 : decode cX11_schedule 95 = .ok (.invokevirtual 323, 3) := by decide +kernel
theorem dX11_schedule_98 : decode cX11_schedule 98 = .ok (.iinc 3 1, 3) := by decide +kernel
theorem dX11_schedule_101 : decode cX11_schedule 101 = .ok (.goto (-44), 3) := by decide +kernel
theorem dX11_schedule_104 : decode cX11_schedule 104 = .ok (.aload_n 0, 1) := by decide +kernel
theorem dX11_schedule_105 : decode cX11_schedule 105 = .ok (.aload_n 0, 1) := by decide +kernel
theorem dX11_schedule_106 : decode cX11_schedule 106 = .ok (.getfield 273, 3) := by decide +kernel
theorem dX11_schedule_109 : decode cX11_schedule 109 = .ok (.invokevirtual 326, 3) := by decide +kernel
theorem dX11_schedule_112 : decode cX11_schedule 112 = .ok (.ireturn, 1) := by decide +kernel
theorem dX11_least_0 : decode cX11_least 0 = .ok (.iload_n 1, 1) := by decide +kernel
theorem dX11_least_1 : decode cX11_least 1 = .ok (.iconst 1, 1) := by decide +kernel
theorem dX11_least_2 : decode cX11_least 2 = .ok (.sipush 20000, 3) := by decide +kernel
theorem dX11_least_5 : decode cX11_least 5 = .ok (.invokestatic 205, 3) := by decide +kernel
theorem dX11_least_8 : decode cX11_least 8 = .ok (.ifCond .ne 5, 3) := by decide +kernel
theorem dX11_least_11 : decode cX11_least 11 = .ok (.iconst (-1), 1) := by decide +kernel
theorem dX11_least_12 : decode cX11_least 12 = .ok (.ireturn, 1) := by decide +kernel
theorem dX11_least_13 : decode cX11_least 13 = .ok (.aload_n 0, 1) := by decide +kernel
theorem dX11_least_14 : decode cX11_least 14 = .ok (.getfield 202, 3) := by decide +kernel
theorem dX11_least_17 : decode cX11_least 17 = .ok (.ifCond .eq 12, 3) := by decide +kernel
theorem dX11_least_20 : decode cX11_least 20 = .ok (.aload_n 0, 1) := by decide +kernel
theorem dX11_least_21 : decode cX11_least 21 = .ok (.getfield 202, 3) := by decide +kernel
theorem dX11_least_24 : decode cX11_least 24 = .ok (.bipush 8, 2) := by decide +kernel
theorem dX11_least_26 : decode cX11_least 26 = .ok (.if_icmp .le 6, 3) := by decide +kernel
theorem dX11_least_29 : decode cX11_least 29 = .ok (.bipush (-4), 2) := by decide +kernel
theorem dX11_least_31 : decode cX11_least 31 = .ok (.ireturn, 1) := by decide +kernel
theorem dX11_least_32 : decode cX11_least 32 = .ok (.aload_n 0, 1) := by decide +kernel
theorem dX11_least_33 : decode cX11_least 33 = .ok (.iconst 0, 1) := by decide +kernel
theorem dX11_least_34 : decode cX11_least 34 = .ok (.invokevirtual 304, 3) := by decide +kernel
theorem dX11_least_37 : decode cX11_least 37 = .ok (.istore_n 2, 1) := by decide +kernel
theorem dX11_least_38 : decode cX11_least 38 = .ok (.iload_n 2, 1) := by decide +kernel
theorem dX11_least_39 : decode cX11_least 39 = .ok (.ifCond .ge 5, 3) := by decide +kernel
theorem dX11_least_42 : decode cX11_least 42 = .ok (.iload_n 2, 1) := by decide +kernel
theorem dX11_least_43 : decode cX11_least 43 = .ok (.ireturn, 1) := by decide +kernel
theorem dX11_least_44 : decode cX11_least 44 = .ok (.aload_n 0, 1) := by decide +kernel
theorem dX11_least_45 : decode cX11_least 45 = .ok (.getfield 273, 3) := by decide +kernel
theorem dX11_least_48 : decode cX11_least 48 = .ok (.bipush 40, 2) := by decide +kernel
theorem dX11_least_50 : decode cX11_least 50 = .ok (.if_icmp .gt 11, 3) := by decide +kernel
theorem dX11_least_53 : decode cX11_least 53 = .ok (.aload_n 0, 1) := by decide +kernel
theorem dX11_least_54 : decode cX11_least 54 = .ok (.iconst 0, 1) := by decide +kernel
theorem dX11_least_55 : decode cX11_least 55 = .ok (.invokevirtual 300, 3) := by decide +kernel
theorem dX11_least_58 : decode cX11_least 58 = .ok (.ifCond .eq 6, 3) := by decide +kernel
theorem dX11_least_61 : decode cX11_least 61 = .ok (.bipush (-4), 2) := by decide +kernel
theorem dX11_least_63 : decode cX11_least 63 = .ok (.ireturn, 1) := by decide +kernel
theorem dX11_least_64 : decode cX11_least 64 = .ok (.aload_n 0, 1) := by decide +kernel
theorem dX11_least_65 : decode cX11_least 65 = .ok (.iconst 0, 1) := by decide +kernel
theorem dX11_least_66 : decode cX11_least 66 = .ok (.invokevirtual 286, 3) := by decide +kernel
theorem dX11_least_69 : decode cX11_least 69 = .ok (.aload_n 0, 1) := by decide +kernel
theorem dX11_least_70 : decode cX11_least 70 = .ok (.invokevirtual 317, 3) := by decide +kernel
theorem dX11_least_73 : decode cX11_least 73 = .ok (.aload_n 0, 1) := by decide +kernel
theorem dX11_least_74 : decode cX11_least 74 = .ok (.iconst 0, 1) := by decide +kernel
theorem dX11_least_75 : decode cX11_least 75 = .ok (.putfield 329, 3) := by decide +kernel
theorem dX11_least_78 : decode cX11_least 78 = .ok (.ldc_w 332, 3) := by decide +kernel
theorem dX11_least_81 : decode cX11_least 81 = .ok (.istore_n 3, 1) := by decide +kernel
theorem dX11_least_82 : decode cX11_least 82 = .ok (.iconst 0, 1) := by decide +kernel
theorem dX11_least_83 : decode cX11_least 83 = .ok (.istore 4, 2) := by decide +kernel
theorem dX11_least_85 : decode cX11_least 85 = .ok (.aload_n 0, 1) := by decide +kernel
theorem dX11_least_86 : decode cX11_least 86 = .ok (.getfield 129, 3) := by decide +kernel
theorem dX11_least_89 : decode cX11_least 89 = .ok (.iconst 0, 1) := by decide +kernel
theorem dX11_least_90 : decode cX11_least 90 = .ok (.iconst 0, 1) := by decide +kernel
theorem dX11_least_91 : decode cX11_least 91 = .ok (.iastore, 1) := by decide +kernel
theorem dX11_least_92 : decode cX11_least 92 = .ok (.iload 4, 2) := by decide +kernel
theorem dX11_least_94 : decode cX11_least 94 = .ok (.ifCond .lt 218, 3) := by decide +kernel
theorem dX11_least_97 : decode cX11_least 97 = .ok (.aload_n 0, 1) := by decide +kernel
theorem dX11_least_98 : decode cX11_least 98 = .ok (.getfield 129, 3) := by decide +kernel
theorem dX11_least_101 : decode cX11_least 101 = .ok (.iload 4, 2) := by decide +kernel
theorem dX11_least_103 : decode cX11_least 103 = .ok (.iaload, 1) := by decide +kernel
theorem dX11_least_104 : decode cX11_least 104 = .ok (.aload_n 0, 1) := by decide +kernel
theorem dX11_least_105 : decode cX11_least 105 = .ok (.getfield 202, 3) := by decide +kernel
theorem dX11_least_108 : decode cX11_least 108 = .ok (.if_icmp .ne 31, 3) := by decide +kernel
theorem dX11_least_111 : decode cX11_least 111 = .ok (.iinc 4 (-1), 3) := by decide +kernel
theorem dX11_least_114 : decode cX11_least 114 = .ok (.iload 4, 2) := by decide +kernel
theorem dX11_least_116 : decode cX11_least 116 = .ok (.ifCond .lt (-24), 3) := by decide +kernel
theorem dX11_least_119 : decode cX11_least 119 = .ok (.aload_n 0, 1) := by decide +kernel
theorem dX11_least_120 : decode cX11_least 120 = .ok (.aload_n 0, 1) := by decide +kernel
theorem dX11_least_121 : decode cX11_least 121 = .ok (.getfield 132, 3) := by decide +kernel
theorem dX11_least_124 : decode cX11_least 124 = .ok (.iload 4, 2) := by decide +kernel
theorem dX11_least_126 : decode cX11_least 126 = .ok (.iaload, 1) := by decide +kernel
theorem dX11_least_127 : decode cX11_least 127 = .ok (.invokevirtual 333, 3) := by decide +kernel
theorem dX11_least_130 : decode cX11_least 130 = .ok (.aload_n 0, 1) := by decide +kernel
theorem dX11_least_131 : decode cX11_least 131 = .ok (.iload 4, 2) := by decide +kernel
theorem dX11_least_133 : decode cX11_least 133 = .ok (.invokevirtual 336, 3) := by decide +kernel
theorem dX11_least_136 : decode cX11_least 136 = .ok (.goto (-44), 3) := by decide +kernel
theorem dX11_least_139 : decode cX11_least 139 = .ok (.aload_n 0, 1) := by decide +kernel
theorem dX11_least_140 : decode cX11_least 140 = .ok (.getfield 129, 3) := by decide +kernel
theorem dX11_least_143 : decode cX11_least 143 = .ok (.iload 4, 2) := by decide +kernel
theorem dX11_least_145 : decode cX11_least 145 = .ok (.iaload, 1) := by decide +kernel
theorem dX11_least_146 : decode cX11_least 146 = .ok (.istore 5, 2) := by decide +kernel
theorem dX11_least_148 : decode cX11_least 148 = .ok (.aload_n 0, 1) := by decide +kernel
theorem dX11_least_149 : decode cX11_least 149 = .ok (.getfield 129, 3) := by decide +kernel
theorem dX11_least_152 : decode cX11_least 152 = .ok (.iload 4, 2) := by decide +kernel
theorem dX11_least_154 : decode cX11_least 154 = .ok (.dup2, 1) := by decide +kernel
theorem dX11_least_155 : decode cX11_least 155 = .ok (.iaload, 1) := by decide +kernel
theorem dX11_least_156 : decode cX11_least 156 = .ok (.iconst 1, 1) := by decide +kernel
theorem dX11_least_157 : decode cX11_least 157 = .ok (.iadd, 1) := by decide +kernel
theorem dX11_least_158 : decode cX11_least 158 = .ok (.iastore, 1) := by decide +kernel
theorem dX11_least_159 : decode cX11_least 159 = .ok (.aload_n 0, 1) := by decide +kernel
theorem dX11_least_160 : decode cX11_least 160 = .ok (.getfield 104, 3) := by decide +kernel
theorem dX11_least_163 : decode cX11_least 163 = .ok (.iload 5, 2) := by decide +kernel
theorem dX11_least_165 : decode cX11_least 165 = .ok (.iaload, 1) := by decide +kernel
theorem dX11_least_166 : decode cX11_least 166 = .ok (.ifCond .eq (-74), 3) := by decide +kernel
theorem dX11_least_169 : decode cX11_least 169 = .ok (.aload_n 0, 1) := by decide +kernel
theorem dX11_least_170 : decode cX11_least 170 = .ok (.iload 5, 2) := by decide +kernel
theorem dX11_least_172 : decode cX11_least 172 = .ok (.invokevirtual 283, 3) := by decide +kernel
theorem dX11_least_175 : decode cX11_least 175 = .ok (.ifCond .ne 6, 3) := by decide +kernel
theorem dX11_least_178 : decode cX11_least 178 = .ok (.goto (-86), 3) := by decide +kernel
theorem dX11_least_181 : decode cX11_least 181 = .ok (.aload_n 0, 1) := by decide +kernel
theorem dX11_least_182 : decode cX11_least 182 = .ok (.getfield 329, 3) := by decide +kernel
theorem dX11_least_185 : decode cX11_least 185 = .ok (.iload_n 1, 1) := by decide +kernel
theorem dX11_least_186 : decode cX11_least 186 = .ok (.if_icmp .ne 6, 3) := by decide +kernel
theorem dX11_least_189 : decode cX11_least 189 = .ok (.bipush (-6), 2) := by decide +kernel
theorem dX11_least_191 : decode cX11_least 191 = .ok (.ireturn, 1) := by decide +kernel
theorem dX11_least_192 : decode cX11_least 192 = .ok (.aload_n 0, 1) := by decide +kernel
theorem dX11_least_193 : decode cX11_least 193 = .ok (.dup, 1) := by decide +kernel
theorem dX11_least_194 : decode cX11_least 194 = .ok (.getfield 329, 3) := by decide +kernel
theorem dX11_least_197 : decode cX11_least 197 = .ok (.iconst 1, 1) := by decide +kernel
theorem dX11_least_198 : decode cX11_least 198 = .ok (.iadd, 1) := by decide +kernel
theorem dX11_least_199 : decode cX11_least 199 = .ok (.putfield 329, 3) := by decide +kernel
theorem dX11_least_202 : decode cX11_least 202 = .ok (.aload_n 0, 1) := by decide +kernel
theorem dX11_least_203 : decode cX11_least 203 = .ok (.iload 4, 2) := by decide +kernel
theorem dX11_least_205 : decode cX11_least 205 = .ok (.invokevirtual 339, 3) := by decide +kernel
theorem dX11_least_208 : decode cX11_least 208 = .ok (.aload_n 0, 1) := by decide +kernel
theorem dX11_least_209 : decode cX11_least 209 = .ok (.getfield 132, 3) := by decide +kernel
theorem dX11_least_212 : decode cX11_least 212 = .ok (.iload 4, 2) := by decide +kernel
theorem dX11_least_214 : decode cX11_least 214 = .ok (.iload 5, 2) := by decide +kernel
theorem dX11_least_216 : decode cX11_least 216 = .ok (.iastore, 1) := by decide +kernel
theorem dX11_least_217 : decode cX11_least 217 = .ok (.aload_n 0, 1) := by decide +kernel
theorem dX11_least_218 : decode cX11_least 218 = .ok (.iload 5, 2) := by decide +kernel
theorem dX11_least_220 : decode cX11_least 220 = .ok (.invokevirtual 293, 3) := by decide +kernel
theorem dX11_least_223 : decode cX11_least 223 = .ok (.aload_n 0, 1) := by decide +kernel
theorem dX11_least_224 : decode cX11_least 224 = .ok (.invokevirtual 323, 3) := by decide +kernel
theorem dX11_least_227 : decode cX11_least 227 = .ok (.aload_n 0, 1) := by decide +kernel
theorem dX11_least_228 : decode cX11_least 228 = .ok (.invokevirtual 311, 3) := by decide +kernel
theorem dX11_least_231 : decode cX11_least 231 = .ok (.iload_n 3, 1) := by decide +kernel
theorem dX11_least_232 : decode cX11_least 232 = .ok (.if_icmp .ge 7, 3) := by decide +kernel
theorem dX11_least_235 : decode cX11_least 235 = .ok (.iconst 1, 1) := by decide +kernel
theorem dX11_least_236 : decode cX11_least 236 = .ok (.goto 4, 3) := by decide +kernel
theorem dX11_least_239 : decode cX11_least 239 = .ok (.iconst 0, 1) := by decide +kernel
theorem dX11_least_240 : decode cX11_least 240 = .ok (.istore 6, 2) := by decide +kernel
theorem dX11_least_242 : decode cX11_least 242 = .ok (.iload 6, 2) := by decide +kernel
theorem dX11_least_244 : decode cX11_least 244 = .ok (.ifCond .eq 23, 3) := by decide +kernel
theorem dX11_least_247 : decode cX11_least 247 = .ok (.iload 4, 2) := by decide +kernel
theorem dX11_least_249 : decode cX11_least 249 = .ok (.iconst 1, 1) := by decide +kernel
theorem dX11_least_250 : decode cX11_least 250 = .ok (.iadd, 1) := by decide +kernel
theorem dX11_least_251 : decode cX11_least 251 = .ok (.aload_n 0, 1) := by decide +kernel
theorem dX11_least_252 : decode cX11_least 252 = .ok (.getfield 273, 3) := by decide +kernel
theorem dX11_least_255 : decode cX11_least 255 = .ok (.if_icmp .ne 12, 3) := by decide +kernel
theorem dX11_least_258 : decode cX11_least 258 = .ok (.aload_n 0, 1) := by decide +kernel
theorem dX11_least_259 : decode cX11_least 259 = .ok (.invokevirtual 311, 3) := by decide +kernel
theorem dX11_least_262 : decode cX11_least 262 = .ok (.istore_n 3, 1) := by decide +kernel
theorem dX11_least_263 : decode cX11_least 263 = .ok (.aload_n 0, 1) := by decide +kernel
theorem dX11_least_264 : decode cX11_least 264 = .ok (.invokevirtual 342, 3) := by decide +kernel
theorem dX11_least_267 : decode cX11_least 267 = .ok (.iload 6, 2) := by decide +kernel
theorem dX11_least_269 : decode cX11_least 269 = .ok (.ifCond .eq 28, 3) := by decide +kernel
theorem dX11_least_272 : decode cX11_least 272 = .ok (.iload 4, 2) := by decide +kernel
theorem dX11_least_274 : decode cX11_least 274 = .ok (.iconst 1, 1) := by decide +kernel
theorem dX11_least_275 : decode cX11_least 275 = .ok (.iadd, 1) := by decide +kernel
theorem dX11_least_276 : decode cX11_least 276 = .ok (.aload_n 0, 1) := by decide +kernel
theorem dX11_least_277 : decode cX11_least 277 = .ok (.getfield 273, 3) := by decide +kernel
theorem dX11_least_280 : decode cX11_least 280 = .ok (.if_icmp .ge 17, 3) := by decide +kernel
theorem dX11_least_283 : decode cX11_least 283 = .ok (.iinc 4 1, 3) := by decide +kernel
theorem dX11_least_286 : decode cX11_least 286 = .ok (.aload_n 0, 1) := by decide +kernel
theorem dX11_least_287 : decode cX11_least 287 = .ok (.getfield 129, 3) := by decide +kernel
theorem dX11_least_290 : decode cX11_least 290 = .ok (.iload 4, 2) := by decide +kernel
theorem dX11_least_292 : decode cX11_least 292 = .ok (.iconst 0, 1) := by decide +kernel
theorem dX11_least_293 : decode cX11_least 293 = .ok (.iastore, 1) := by decide +kernel
theorem dX11_least_294 : decode cX11_least 294 = .ok (.goto 15, 3) := by decide +kernel
theorem dX11_least_297 : decode cX11_least 297 = .ok (.aload_n 0, 1) := by decide +kernel
theorem dX11_least_298 : decode cX11_least 298 = .ok (.iload 5, 2) := by decide +kernel
theorem dX11_least_300 : decode cX11_least 300 = .ok (.invokevirtual 333, 3) := by decide +kernel
theorem dX11_least_303 : decode cX11_least 303 = .ok (.aload_n 0, 1) := by decide +kernel
theorem dX11_least_304 : decode cX11_least 304 = .ok (.iload 4, 2) := by decide +kernel
theorem dX11_least_306 : decode cX11_least 306 = .ok (.invokevirtual 336, 3) := by decide +kernel
theorem dX11_least_309 : decode cX11_least 309 = .ok (.goto (-217), 3) := by decide +kernel
theorem dX11_least_312 : decode cX11_least 312 = .ok (.iconst 0, 1) := by decide +kernel
theorem dX11_least_313 : decode cX11_least 313 = .ok (.istore 5, 2) := by decide +kernel
theorem dX11_least_315 : decode cX11_least 315 = .ok (.iload 5, 2) := by decide +kernel
theorem dX11_least_317 : decode cX11_least 317 = .ok (.aload_n 0, 1) := by decide +kernel
theorem dX11_least_318 : decode cX11_least 318 = .ok (.getfield 273, 3) := by decide +kernel
theorem dX11_least_321 : decode cX11_least 321 = .ok (.if_icmp .ge 23, 3) := by decide +kernel
theorem dX11_least_324 : decode cX11_least 324 = .ok (.aload_n 0, 1) := by decide +kernel
theorem dX11_least_325 : decode cX11_least 325 = .ok (.getfield 120, 3) := by decide +kernel
theorem dX11_least_328 : decode cX11_least 328 = .ok (.iload 5, 2) := by decide +kernel
theorem dX11_least_330 : decode cX11_least 330 = .ok (.aload_n 0, 1) := by decide +kernel
theorem dX11_least_331 : decode cX11_least 331 = .ok (.getfield 138, 3) := by decide +kernel
theorem dX11_least_334 : decode cX11_least 334 = .ok (.iload 5, 2) := by decide +kernel
theorem dX11_least_336 : decode cX11_least 336 = .ok (.iaload, 1) := by decide +kernel
theorem dX11_least_337 : decode cX11_least 337 = .ok (.iastore, 1) := by decide +kernel
theorem dX11_least_338 : decode cX11_least 338 = .ok (.iinc 5 1, 3) := by decide +kernel
theorem dX11_least_341 : decode cX11_least 341 = .ok (.goto (-26), 3) := by decide +kernel
theorem dX11_least_344 : decode cX11_least 344 = .ok (.iconst 0, 1) := by decide +kernel
theorem dX11_least_345 : decode cX11_least 345 = .ok (.istore 5, 2) := by decide +kernel
theorem dX11_least_347 : decode cX11_least 347 = .ok (.iload 5, 2) := by decide +kernel
theorem dX11_least_349 : decode cX11_least 349 = .ok (.aload_n 0, 1) := by decide +kernel
theorem dX11_least_350 : decode cX11_least 350 = .ok (.getfield 209, 3) := by decide +kernel
theorem dX11_least_353 : decode cX11_least 353 = .ok (.if_icmp .ge 23, 3) := by decide +kernel
theorem dX11_least_356 : decode cX11_least 356 = .ok (.aload_n 0, 1) := by decide +kernel
theorem dX11_least_357 : decode cX11_least 357 = .ok (.getfield 123, 3) := by decide +kernel
theorem dX11_least_360 : decode cX11_least 360 = .ok (.iload 5, 2) := by decide +kernel
theorem dX11_least_362 : decode cX11_least 362 = .ok (.aload_n 0, 1) := by decide +kernel
theorem dX11_least_363 : decode cX11_least 363 = .ok (.getfield 141, 3) := by decide +kernel
theorem dX11_least_366 : decode cX11_least 366 = .ok (.iload 5, 2) := by decide +kernel
theorem dX11_least_368 : decode cX11_least 368 = .ok (.iaload, 1) := by decide +kernel
theorem dX11_least_369 : decode cX11_least 369 = .ok (.iastore, 1) := by decide +kernel
theorem dX11_least_370 : decode cX11_least 370 = .ok (.iinc 5 1, 3) := by decide +kernel
theorem dX11_least_373 : decode cX11_least 373 = .ok (.goto (-26), 3) := by decide +kernel
theorem dX11_least_376 : decode cX11_least 376 = .ok (.aload_n 0, 1) := by decide +kernel
theorem dX11_least_377 : decode cX11_least 377 = .ok (.aload_n 0, 1) := by decide +kernel
theorem dX11_least_378 : decode cX11_least 378 = .ok (.getfield 273, 3) := by decide +kernel
theorem dX11_least_381 : decode cX11_least 381 = .ok (.invokevirtual 326, 3) := by decide +kernel
theorem dX11_least_384 : decode cX11_least 384 = .ok (.ireturn, 1) := by decide +kernel
theorem dX11_keepStores_0 : decode cX11_keepStores 0 = .ok (.iconst 0, 1) := by decide +kernel
theorem dX11_keepStores_1 : decode cX11_keepStores 1 = .ok (.istore_n 2, 1) := by decide +kernel
theorem dX11_keepStores_2 : decode cX11_keepStores 2 = .ok (.iload_n 2, 1) := by decide +kernel
theorem dX11_keepStores_3 : decode cX11_keepStores 3 = .ok (.aload_n 0, 1) := by decide +kernel
theorem dX11_keepStores_4 : decode cX11_keepStores 4 = .ok (.getfield 209, 3) := by decide +kernel
theorem dX11_keepStores_7 : decode cX11_keepStores 7 = .ok (.if_icmp .ge 26, 3) := by decide +kernel
theorem dX11_keepStores_10 : decode cX11_keepStores 10 = .ok (.aload_n 0, 1) := by decide +kernel
theorem dX11_keepStores_11 : decode cX11_keepStores 11 = .ok (.getfield 135, 3) := by decide +kernel
theorem dX11_keepStores_14 : decode cX11_keepStores 14 = .ok (.bipush 20, 2) := by decide +kernel
theorem dX11_keepStores_16 : decode cX11_keepStores 16 = .ok (.iload_n 1, 1) := by decide +kernel
theorem dX11_keepStores_17 : decode cX11_keepStores 17 = .ok (.imul, 1) := by decide +kernel
theorem dX11_keepStores_18 : decode cX11_keepStores 18 = .ok (.iload_n 2, 1) := by decide +kernel
theorem dX11_keepStores_19 : decode cX11_keepStores 19 = .ok (.iadd, 1) := by decide +kernel
theorem dX11_keepStores_20 : decode cX11_keepStores 20 = .ok (.aload_n 0, 1) := by decide +kernel
theorem dX11_keepStores_21 : decode cX11_keepStores 21 = .ok (.getfield 123, 3) := by decide +kernel
theorem dX11_keepStores_24 : decode cX11_keepStores 24 = .ok (.iload_n 2, 1) := by decide +kernel
theorem dX11_keepStores_25 : decode cX11_keepStores 25 = .ok (.iaload, 1) := by decide +kernel
theorem dX11_keepStores_26 : decode cX11_keepStores 26 = .ok (.iastore, 1) := by decide +kernel
theorem dX11_keepStores_27 : decode cX11_keepStores 27 = .ok (.iinc 2 1, 3) := by decide +kernel
theorem dX11_keepStores_30 : decode cX11_keepStores 30 = .ok (.goto (-28), 3) := by decide +kernel
theorem dX11_keepStores_33 : decode cX11_keepStores 33 = .ok (.return_, 1) := by decide +kernel
theorem dX11_bringStores_0 : decode cX11_bringStores 0 = .ok (.iconst 0, 1) := by decide +kernel
theorem dX11_bringStores_1 : decode cX11_bringStores 1 = .ok (.istore_n 2, 1) := by decide +kernel
theorem dX11_bringStores_2 : decode cX11_bringStores 2 = .ok (.iload_n 2, 1) := by decide +kernel
theorem dX11_bringStores_3 : decode cX11_bringStores 3 = .ok (.aload_n 0, 1) := by decide +kernel
theorem dX11_bringStores_4 : decode cX11_bringStores 4 = .ok (.getfield 209, 3) := by decide +kernel
theorem dX11_bringStores_7 : decode cX11_bringStores 7 = .ok (.if_icmp .ge 26, 3) := by decide +kernel
theorem dX11_bringStores_10 : decode cX11_bringStores 10 = .ok (.aload_n 0, 1) := by decide +kernel
theorem dX11_bringStores_11 : decode cX11_bringStores 11 = .ok (.getfield 123, 3) := by decide +kernel
theorem dX11_bringStores_14 : decode cX11_bringStores 14 = .ok (.iload_n 2, 1) := by decide +kernel
theorem dX11_bringStores_15 : decode cX11_bringStores 15 = .ok (.aload_n 0, 1) := by decide +kernel
theorem dX11_bringStores_16 : decode cX11_bringStores 16 = .ok (.getfield 135, 3) := by decide +kernel
theorem dX11_bringStores_19 : decode cX11_bringStores 19 = .ok (.bipush 20, 2) := by decide +kernel
theorem dX11_bringStores_21 : decode cX11_bringStores 21 = .ok (.iload_n 1, 1) := by decide +kernel
theorem dX11_bringStores_22 : decode cX11_bringStores 22 = .ok (.imul, 1) := by decide +kernel
theorem dX11_bringStores_23 : decode cX11_bringStores 23 = .ok (.iload_n 2, 1) := by decide +kernel
theorem dX11_bringStores_24 : decode cX11_bringStores 24 = .ok (.iadd, 1) := by decide +kernel
theorem dX11_bringStores_25 : decode cX11_bringStores 25 = .ok (.iaload, 1) := by decide +kernel
theorem dX11_bringStores_26 : decode cX11_bringStores 26 = .ok (.iastore, 1) := by decide +kernel
theorem dX11_bringStores_27 : decode cX11_bringStores 27 = .ok (.iinc 2 1, 3) := by decide +kernel
theorem dX11_bringStores_30 : decode cX11_bringStores 30 = .ok (.goto (-28), 3) := by decide +kernel
theorem dX11_bringStores_33 : decode cX11_bringStores 33 = .ok (.return_, 1) := by decide +kernel
theorem dX11_keepBest_0 : decode cX11_keepBest 0 = .ok (.iconst 0, 1) := by decide +kernel
theorem dX11_keepBest_1 : decode cX11_keepBest 1 = .ok (.istore_n 1, 1) := by decide +kernel
theorem dX11_keepBest_2 : decode cX11_keepBest 2 = .ok (.iload_n 1, 1) := by decide +kernel
theorem dX11_keepBest_3 : decode cX11_keepBest 3 = .ok (.aload_n 0, 1) := by decide +kernel
theorem dX11_keepBest_4 : decode cX11_keepBest 4 = .ok (.getfield 273, 3) := by decide +kernel
theorem dX11_keepBest_7 : decode cX11_keepBest 7 = .ok (.if_icmp .ge 21, 3) := by decide +kernel
theorem dX11_keepBest_10 : decode cX11_keepBest 10 = .ok (.aload_n 0, 1) := by decide +kernel
theorem dX11_keepBest_11 : decode cX11_keepBest 11 = .ok (.getfield 138, 3) := by decide +kernel
theorem dX11_keepBest_14 : decode cX11_keepBest 14 = .ok (.iload_n 1, 1) := by decide +kernel
theorem dX11_keepBest_15 : decode cX11_keepBest 15 = .ok (.aload_n 0, 1) := by decide +kernel
theorem dX11_keepBest_16 : decode cX11_keepBest 16 = .ok (.getfield 132, 3) := by decide +kernel
theorem dX11_keepBest_19 : decode cX11_keepBest 19 = .ok (.iload_n 1, 1) := by decide +kernel
theorem dX11_keepBest_20 : decode cX11_keepBest 20 = .ok (.iaload, 1) := by decide +kernel
theorem dX11_keepBest_21 : decode cX11_keepBest 21 = .ok (.iastore, 1) := by decide +kernel
theorem dX11_keepBest_22 : decode cX11_keepBest 22 = .ok (.iinc 1 1, 3) := by decide +kernel
theorem dX11_keepBest_25 : decode cX11_keepBest 25 = .ok (.goto (-23), 3) := by decide +kernel
theorem dX11_keepBest_28 : decode cX11_keepBest 28 = .ok (.iconst 0, 1) := by decide +kernel
theorem dX11_keepBest_29 : decode cX11_keepBest 29 = .ok (.istore_n 1, 1) := by decide +kernel
theorem dX11_keepBest_30 : decode cX11_keepBest 30 = .ok (.iload_n 1, 1) := by decide +kernel
theorem dX11_keepBest_31 : decode cX11_keepBest 31 = .ok (.aload_n 0, 1) := by decide +kernel
theorem dX11_keepBest_32 : decode cX11_keepBest 32 = .ok (.getfield 209, 3) := by decide +kernel
theorem dX11_keepBest_35 : decode cX11_keepBest 35 = .ok (.if_icmp .ge 21, 3) := by decide +kernel
theorem dX11_keepBest_38 : decode cX11_keepBest 38 = .ok (.aload_n 0, 1) := by decide +kernel
theorem dX11_keepBest_39 : decode cX11_keepBest 39 = .ok (.getfield 141, 3) := by decide +kernel
theorem dX11_keepBest_42 : decode cX11_keepBest 42 = .ok (.iload_n 1, 1) := by decide +kernel
theorem dX11_keepBest_43 : decode cX11_keepBest 43 = .ok (.aload_n 0, 1) := by decide +kernel
theorem dX11_keepBest_44 : decode cX11_keepBest 44 = .ok (.getfield 123, 3) := by decide +kernel
theorem dX11_keepBest_47 : decode cX11_keepBest 47 = .ok (.iload_n 1, 1) := by decide +kernel
theorem dX11_keepBest_48 : decode cX11_keepBest 48 = .ok (.iaload, 1) := by decide +kernel
theorem dX11_keepBest_49 : decode cX11_keepBest 49 = .ok (.iastore, 1) := by decide +kernel
theorem dX11_keepBest_50 : decode cX11_keepBest 50 = .ok (.iinc 1 1, 3) := by decide +kernel
theorem dX11_keepBest_53 : decode cX11_keepBest 53 = .ok (.goto (-23), 3) := by decide +kernel
theorem dX11_keepBest_56 : decode cX11_keepBest 56 = .ok (.return_, 1) := by decide +kernel
theorem dX11_tries_0 : decode cX11_tries 0 = .ok (.aload_n 0, 1) := by decide +kernel
theorem dX11_tries_1 : decode cX11_tries 1 = .ok (.getfield 329, 3) := by decide +kernel
theorem dX11_tries_4 : decode cX11_tries 4 = .ok (.ireturn, 1) := by decide +kernel
theorem dX11_isRow_0 : decode cX11_isRow 0 = .ok (.iconst 0, 1) := by decide +kernel
theorem dX11_isRow_1 : decode cX11_isRow 1 = .ok (.istore_n 1, 1) := by decide +kernel
theorem dX11_isRow_2 : decode cX11_isRow 2 = .ok (.iload_n 1, 1) := by decide +kernel
theorem dX11_isRow_3 : decode cX11_isRow 3 = .ok (.aload_n 0, 1) := by decide +kernel
theorem dX11_isRow_4 : decode cX11_isRow 4 = .ok (.getfield 202, 3) := by decide +kernel
theorem dX11_isRow_7 : decode cX11_isRow 7 = .ok (.if_icmp .ge 16, 3) := by decide +kernel
theorem dX11_isRow_10 : decode cX11_isRow 10 = .ok (.aload_n 0, 1) := by decide +kernel
theorem dX11_isRow_11 : decode cX11_isRow 11 = .ok (.getfield 147, 3) := by decide +kernel
theorem dX11_isRow_14 : decode cX11_isRow 14 = .ok (.iload_n 1, 1) := by decide +kernel
theorem dX11_isRow_15 : decode cX11_isRow 15 = .ok (.iconst 0, 1) := by decide +kernel
theorem dX11_isRow_16 : decode cX11_isRow 16 = .ok (.bastore, 1) := by decide +kernel
theorem dX11_isRow_17 : decode cX11_isRow 17 = .ok (.iinc 1 1, 3) := by decide +kernel
theorem dX11_isRow_20 : decode cX11_isRow 20 = .ok (.goto (-18), 3) := by decide +kernel
theorem dX11_isRow_23 : decode cX11_isRow 23 = .ok (.iconst 0, 1) := by decide +kernel
theorem dX11_isRow_24 : decode cX11_isRow 24 = .ok (.istore_n 1, 1) := by decide +kernel
theorem dX11_isRow_25 : decode cX11_isRow 25 = .ok (.iload_n 1, 1) := by decide +kernel
theorem dX11_isRow_26 : decode cX11_isRow 26 = .ok (.aload_n 0, 1) := by decide +kernel
theorem dX11_isRow_27 : decode cX11_isRow 27 = .ok (.getfield 202, 3) := by decide +kernel
theorem dX11_isRow_30 : decode cX11_isRow 30 = .ok (.if_icmp .ge 135, 3) := by decide +kernel
theorem dX11_isRow_33 : decode cX11_isRow 33 = .ok (.bipush (-9), 2) := by decide +kernel
theorem dX11_isRow_35 : decode cX11_isRow 35 = .ok (.istore_n 2, 1) := by decide +kernel
theorem dX11_isRow_36 : decode cX11_isRow 36 = .ok (.iconst 0, 1) := by decide +kernel
theorem dX11_isRow_37 : decode cX11_isRow 37 = .ok (.istore_n 3, 1) := by decide +kernel
theorem dX11_isRow_38 : decode cX11_isRow 38 = .ok (.iload_n 3, 1) := by decide +kernel
theorem dX11_isRow_39 : decode cX11_isRow 39 = .ok (.aload_n 0, 1) := by decide +kernel
theorem dX11_isRow_40 : decode cX11_isRow 40 = .ok (.getfield 202, 3) := by decide +kernel
theorem dX11_isRow_43 : decode cX11_isRow 43 = .ok (.if_icmp .ge 96, 3) := by decide +kernel
theorem dX11_isRow_46 : decode cX11_isRow 46 = .ok (.aload_n 0, 1) := by decide +kernel
theorem dX11_isRow_47 : decode cX11_isRow 47 = .ok (.getfield 147, 3) := by decide +kernel
theorem dX11_isRow_50 : decode cX11_isRow 50 = .ok (.iload_n 3, 1) := by decide +kernel
theorem dX11_isRow_51 : decode cX11_isRow 51 = .ok (.baload, 1) := by decide +kernel
theorem dX11_isRow_52 : decode cX11_isRow 52 = .ok (.ifCond .ne 11, 3) := by decide +kernel
theorem dX11_isRow_55 : decode cX11_isRow 55 = .ok (.iload_n 2, 1) := by decide +kernel
theorem dX11_isRow_56 : decode cX11_isRow 56 = .ok (.ifCond .ge 7, 3) := by decide +kernel
theorem dX11_isRow_59 : decode cX11_isRow 59 = .ok (.iconst 1, 1) := by decide +kernel
theorem dX11_isRow_60 : decode cX11_isRow 60 = .ok (.goto 4, 3) := by decide +kernel
theorem dX11_isRow_63 : decode cX11_isRow 63 = .ok (.iconst 0, 1) := by decide +kernel
theorem dX11_isRow_64 : decode cX11_isRow 64 = .ok (.istore 4, 2) := by decide +kernel
theorem dX11_isRow_66 : decode cX11_isRow 66 = .ok (.iconst 0, 1) := by decide +kernel
theorem dX11_isRow_67 : decode cX11_isRow 67 = .ok (.istore 5, 2) := by decide +kernel
theorem dX11_isRow_69 : decode cX11_isRow 69 = .ok (.iload 5, 2) := by decide +kernel
theorem dX11_isRow_71 : decode cX11_isRow 71 = .ok (.aload_n 0, 1) := by decide +kernel
theorem dX11_isRow_72 : decode cX11_isRow 72 = .ok (.getfield 209, 3) := by decide +kernel
theorem dX11_isRow_75 : decode cX11_isRow 75 = .ok (.if_icmp .ge 47, 3) := by decide +kernel
theorem dX11_isRow_78 : decode cX11_isRow 78 = .ok (.iload 4, 2) := by decide +kernel
theorem dX11_isRow_80 : decode cX11_isRow 80 = .ok (.ifCond .eq 42, 3) := by decide +kernel
theorem dX11_isRow_83 : decode cX11_isRow 83 = .ok (.aload_n 0, 1) := by decide +kernel
theorem dX11_isRow_84 : decode cX11_isRow 84 = .ok (.getfield 44, 3) := by decide +kernel
theorem dX11_isRow_87 : decode cX11_isRow 87 = .ok (.iload 5, 2) := by decide +kernel
theorem dX11_isRow_89 : decode cX11_isRow 89 = .ok (.iaload, 1) := by decide +kernel
theorem dX11_isRow_90 : decode cX11_isRow 90 = .ok (.iload_n 3, 1) := by decide +kernel
theorem dX11_isRow_91 : decode cX11_isRow 91 = .ok (.if_icmp .ne 18, 3) := by decide +kernel
theorem dX11_isRow_94 : decode cX11_isRow 94 = .ok (.aload_n 0, 1) := by decide +kernel
theorem dX11_isRow_95 : decode cX11_isRow 95 = .ok (.getfield 147, 3) := by decide +kernel
theorem dX11_isRow_98 : decode cX11_isRow 98 = .ok (.aload_n 0, 1) := by decide +kernel
theorem dX11_isRow_99 : decode cX11_isRow 99 = .ok (.getfield 41, 3) := by decide +kernel
theorem dX11_isRow_102 : decode cX11_isRow 102 = .ok (.iload 5, 2) := by decide +kernel
theorem dX11_isRow_104 : decode cX11_isRow 104 = .ok (.iaload, 1) := by decide +kernel
theorem dX11_isRow_105 : decode cX11_isRow 105 = .ok (.baload, 1) := by decide +kernel
theorem dX11_isRow_106 : decode cX11_isRow 106 = .ok (.ifCond .eq 7, 3) := by decide +kernel
theorem dX11_isRow_109 : decode cX11_isRow 109 = .ok (.iconst 1, 1) := by decide +kernel
theorem dX11_isRow_110 : decode cX11_isRow 110 = .ok (.goto 4, 3) := by decide +kernel
theorem dX11_isRow_113 : decode cX11_isRow 113 = .ok (.iconst 0, 1) := by decide +kernel
theorem dX11_isRow_114 : decode cX11_isRow 114 = .ok (.istore 4, 2) := by decide +kernel
theorem dX11_isRow_116 : decode cX11_isRow 116 = .ok (.iinc 5 1, 3) := by decide +kernel
theorem dX11_isRow_119 : decode cX11_isRow 119 = .ok (.goto (-50), 3) := by decide +kernel
theorem dX11_isRow_122 : decode cX11_isRow 122 = .ok (.iload 4, 2) := by decide +kernel
theorem dX11_isRow_124 : decode cX11_isRow 124 = .ok (.ifCond .eq 7, 3) := by decide +kernel
theorem dX11_isRow_127 : decode cX11_isRow 127 = .ok (.iload_n 3, 1) := by decide +kernel
theorem dX11_isRow_128 : decode cX11_isRow 128 = .ok (.goto 4, 3) := by decide +kernel
theorem dX11_isRow_131 : decode cX11_isRow 131 = .ok (.iload_n 2, 1) := by decide +kernel
theorem dX11_isRow_132 : decode cX11_isRow 132 = .ok (.istore_n 2, 1) := by decide +kernel
theorem dX11_isRow_133 : decode cX11_isRow 133 = .ok (.iinc 3 1, 3) := by decide +kernel
theorem dX11_isRow_136 : decode cX11_isRow 136 = .ok (.goto (-98), 3) := by decide +kernel
theorem dX11_isRow_139 : decode cX11_isRow 139 = .ok (.iload_n 2, 1) := by decide +kernel
theorem dX11_isRow_140 : decode cX11_isRow 140 = .ok (.ifCond .ge 5, 3) := by decide +kernel
theorem dX11_isRow_143 : decode cX11_isRow 143 = .ok (.iconst 0, 1) := by decide +kernel
theorem dX11_isRow_144 : decode cX11_isRow 144 = .ok (.ireturn, 1) := by decide +kernel
theorem dX11_isRow_145 : decode cX11_isRow 145 = .ok (.aload_n 0, 1) := by decide +kernel
theorem dX11_isRow_146 : decode cX11_isRow 146 = .ok (.getfield 147, 3) := by decide +kernel
theorem dX11_isRow_149 : decode cX11_isRow 149 = .ok (.iload_n 2, 1) := by decide +kernel
theorem dX11_isRow_150 : decode cX11_isRow 150 = .ok (.iconst 1, 1) := by decide +kernel
theorem dX11_isRow_151 : decode cX11_isRow 151 = .ok (.bastore, 1) := by decide +kernel
theorem dX11_isRow_152 : decode cX11_isRow 152 = .ok (.aload_n 0, 1) := by decide +kernel
theorem dX11_isRow_153 : decode cX11_isRow 153 = .ok (.getfield 144, 3) := by decide +kernel
theorem dX11_isRow_156 : decode cX11_isRow 156 = .ok (.iload_n 1, 1) := by decide +kernel
theorem dX11_isRow_157 : decode cX11_isRow 157 = .ok (.iload_n 2, 1) := by decide +kernel
theorem dX11_isRow_158 : decode cX11_isRow 158 = .ok (.iastore, 1) := by decide +kernel
theorem dX11_isRow_159 : decode cX11_isRow 159 = .ok (.iinc 1 1, 3) := by decide +kernel
theorem dX11_isRow_162 : decode cX11_isRow 162 = .ok (.goto (-137), 3) := by decide +kernel
theorem dX11_isRow_165 : decode cX11_isRow 165 = .ok (.iconst 1, 1) := by decide +kernel
theorem dX11_isRow_166 : decode cX11_isRow 166 = .ok (.ireturn, 1) := by decide +kernel
theorem dX11_crossing_0 : decode cX11_crossing 0 = .ok (.iconst 0, 1) := by decide +kernel
theorem dX11_crossing_1 : decode cX11_crossing 1 = .ok (.istore 4, 2) := by decide +kernel
theorem dX11_crossing_3 : decode cX11_crossing 3 = .ok (.iconst 0, 1) := by decide +kernel
theorem dX11_crossing_4 : decode cX11_crossing 4 = .ok (.istore 5, 2) := by decide +kernel
theorem dX11_crossing_6 : decode cX11_crossing 6 = .ok (.iload 5, 2) := by decide +kernel
theorem dX11_crossing_8 : decode cX11_crossing 8 = .ok (.aload_n 0, 1) := by decide +kernel
theorem dX11_crossing_9 : decode cX11_crossing 9 = .ok (.getfield 209, 3) := by decide +kernel
theorem dX11_crossing_12 : decode cX11_crossing 12 = .ok (.if_icmp .ge 166, 3) := by decide +kernel
theorem dX11_crossing_15 : decode cX11_crossing 15 = .ok (.iconst 0, 1) := by decide +kernel
theorem dX11_crossing_16 : decode cX11_crossing 16 = .ok (.istore 6, 2) := by decide +kernel
theorem dX11_crossing_18 : decode cX11_crossing 18 = .ok (.iconst 0, 1) := by decide +kernel
theorem dX11_crossing_19 : decode cX11_crossing 19 = .ok (.istore 7, 2) := by decide +kernel
theorem dX11_crossing_21 : decode cX11_crossing 21 = .ok (.iload_n 1, 1) := by decide +kernel
theorem dX11_crossing_22 : decode cX11_crossing 22 = .ok (.istore 8, 2) := by decide +kernel
theorem dX11_crossing_24 : decode cX11_crossing 24 = .ok (.iload 8, 2) := by decide +kernel
theorem dX11_crossing_26 : decode cX11_crossing 26 = .ok (.iload_n 2, 1) := by decide +kernel
theorem dX11_crossing_27 : decode cX11_crossing 27 = .ok (.if_icmp .gt 38, 3) := by decide +kernel
theorem dX11_crossing_30 : decode cX11_crossing 30 = .ok (.iload 6, 2) := by decide +kernel
theorem dX11_crossing_32 : decode cX11_crossing 32 = .ok (.ifCond .ne 20, 3) := by decide +kernel
theorem dX11_crossing_35 : decode cX11_crossing 35 = .ok (.aload_n 0, 1) := by decide +kernel
theorem dX11_crossing_36 : decode cX11_crossing 36 = .ok (.getfield 144, 3) := by decide +kernel
theorem dX11_crossing_39 : decode cX11_crossing 39 = .ok (.iload 8, 2) := by decide +kernel
theorem dX11_crossing_41 : decode cX11_crossing 41 = .ok (.iaload, 1) := by decide +kernel
theorem dX11_crossing_42 : decode cX11_crossing 42 = .ok (.aload_n 0, 1) := by decide +kernel
theorem dX11_crossing_43 : decode cX11_crossing 43 = .ok (.getfield 41, 3) := by decide +kernel
theorem dX11_crossing_46 : decode cX11_crossing 46 = .ok (.iload 5, 2) := by decide +kernel
theorem dX11_crossing_48 : decode cX11_crossing 48 = .ok (.iaload, 1) := by decide +kernel
theorem dX11_crossing_49 : decode cX11_crossing 49 = .ok (.if_icmp .ne 7, 3) := by decide +kernel
theorem dX11_crossing_52 : decode cX11_crossing 52 = .ok (.iconst 1, 1) := by decide +kernel
theorem dX11_crossing_53 : decode cX11_crossing 53 = .ok (.goto 4, 3) := by decide +kernel
theorem dX11_crossing_56 : decode cX11_crossing 56 = .ok (.iconst 0, 1) := by decide +kernel
theorem dX11_crossing_57 : decode cX11_crossing 57 = .ok (.istore 6, 2) := by decide +kernel
theorem dX11_crossing_59 : decode cX11_crossing 59 = .ok (.iinc 8 1, 3) := by decide +kernel
theorem dX11_crossing_62 : decode cX11_crossing 62 = .ok (.goto (-38), 3) := by decide +kernel
theorem dX11_crossing_65 : decode cX11_crossing 65 = .ok (.iload_n 2, 1) := by decide +kernel
theorem dX11_crossing_66 : decode cX11_crossing 66 = .ok (.iconst 1, 1) := by decide +kernel
theorem dX11_crossing_67 : decode cX11_crossing 67 = .ok (.iadd, 1) := by decide +kernel
theorem dX11_crossing_68 : decode cX11_crossing 68 = .ok (.istore 8, 2) := by decide +kernel
theorem dX11_crossing_70 : decode cX11_crossing 70 = .ok (.iload 8, 2) := by decide +kernel
theorem dX11_crossing_72 : decode cX11_crossing 72 = .ok (.iload_n 3, 1) := by decide +kernel
theorem dX11_crossing_73 : decode cX11_crossing 73 = .ok (.if_icmp .gt 38, 3) := by decide +kernel
theorem dX11_crossing_76 : decode cX11_crossing 76 = .ok (.iload 7, 2) := by decide +kernel
theorem dX11_crossing_78 : decode cX11_crossing 78 = .ok (.ifCond .ne 20, 3) := by decide +kernel
theorem dX11_crossing_81 : decode cX11_crossing 81 = .ok (.aload_n 0, 1) := by decide +kernel
theorem dX11_crossing_82 : decode cX11_crossing 82 = .ok (.getfield 144, 3) := by decide +kernel
theorem dX11_crossing_85 : decode cX11_crossing 85 = .ok (.iload 8, 2) := by decide +kernel
theorem dX11_crossing_87 : decode cX11_crossing 87 = .ok (.iaload, 1) := by decide +kernel
theorem dX11_crossing_88 : decode cX11_crossing 88 = .ok (.aload_n 0, 1) := by decide +kernel
theorem dX11_crossing_89 : decode cX11_crossing 89 = .ok (.getfield 44, 3) := by decide +kernel
theorem dX11_crossing_92 : decode cX11_crossing 92 = .ok (.iload 5, 2) := by decide +kernel
theorem dX11_crossing_94 : decode cX11_crossing 94 = .ok (.iaload, 1) := by decide +kernel
theorem dX11_crossing_95 : decode cX11_crossing 95 = .ok (.if_icmp .ne 7, 3) := by decide +kernel
theorem dX11_crossing_98 : decode cX11_crossing 98 = .ok (.iconst 1, 1) := by decide +kernel
theorem dX11_crossing_99 : decode cX11_crossing 99 = .ok (.goto 4, 3) := by decide +kernel
theorem dX11_crossing_102 : decode cX11_crossing 102 = .ok (.iconst 0, 1) := by decide +kernel
theorem dX11_crossing_103 : decode cX11_crossing 103 = .ok (.istore 7, 2) := by decide +kernel
theorem dX11_crossing_105 : decode cX11_crossing 105 = .ok (.iinc 8 1, 3) := by decide +kernel
theorem dX11_crossing_108 : decode cX11_crossing 108 = .ok (.goto (-38), 3) := by decide +kernel
theorem dX11_crossing_111 : decode cX11_crossing 111 = .ok (.iload 4, 2) := by decide +kernel
theorem dX11_crossing_113 : decode cX11_crossing 113 = .ok (.iload 6, 2) := by decide +kernel
theorem dX11_crossing_115 : decode cX11_crossing 115 = .ok (.ifCond .eq 53, 3) := by decide +kernel
theorem dX11_crossing_118 : decode cX11_crossing 118 = .ok (.iload 7, 2) := by decide +kernel
theorem dX11_crossing_120 : decode cX11_crossing 120 = .ok (.ifCond .eq 48, 3) := by decide +kernel
theorem dX11_crossing_123 : decode cX11_crossing 123 = .ok (.aload_n 0, 1) := by decide +kernel
theorem dX11_crossing_124 : decode cX11_crossing 124 = .ok (.getfield 95, 3) := by decide +kernel
theorem dX11_crossing_127 : decode cX11_crossing 127 = .ok (.aload_n 0, 1) := by decide +kernel
theorem dX11_crossing_128 : decode cX11_crossing 128 = .ok (.getfield 41, 3) := by decide +kernel
theorem dX11_crossing_131 : decode cX11_crossing 131 = .ok (.iload 5, 2) := by decide +kernel
theorem dX11_crossing_133 : decode cX11_crossing 133 = .ok (.iaload, 1) := by decide +kernel
theorem dX11_crossing_134 : decode cX11_crossing 134 = .ok (.iaload, 1) := by decide +kernel
theorem dX11_crossing_135 : decode cX11_crossing 135 = .ok (.aload_n 0, 1) := by decide +kernel
theorem dX11_crossing_136 : decode cX11_crossing 136 = .ok (.getfield 47, 3) := by decide +kernel
theorem dX11_crossing_139 : decode cX11_crossing 139 = .ok (.iconst 4, 1) := by decide +kernel
theorem dX11_crossing_140 : decode cX11_crossing 140 = .ok (.iload 5, 2) := by decide +kernel
theorem dX11_crossing_142 : decode cX11_crossing 142 = .ok (.imul, 1) := by decide +kernel
theorem dX11_crossing_143 : decode cX11_crossing 143 = .ok (.iaload, 1) := by decide +kernel
theorem dX11_crossing_144 : decode cX11_crossing 144 = .ok (.imul, 1) := by decide +kernel
theorem dX11_crossing_145 : decode cX11_crossing 145 = .ok (.aload_n 0, 1) := by decide +kernel
theorem dX11_crossing_146 : decode cX11_crossing 146 = .ok (.getfield 151, 3) := by decide +kernel
theorem dX11_crossing_149 : decode cX11_crossing 149 = .ok (.bipush 12, 2) := by decide +kernel
theorem dX11_crossing_151 : decode cX11_crossing 151 = .ok (.iload_n 1, 1) := by decide +kernel
theorem dX11_crossing_152 : decode cX11_crossing 152 = .ok (.imul, 1) := by decide +kernel
theorem dX11_crossing_153 : decode cX11_crossing 153 = .ok (.iload_n 3, 1) := by decide +kernel
theorem dX11_crossing_154 : decode cX11_crossing 154 = .ok (.iadd, 1) := by decide +kernel
theorem dX11_crossing_155 : decode cX11_crossing 155 = .ok (.iaload, 1) := by decide +kernel
theorem dX11_crossing_156 : decode cX11_crossing 156 = .ok (.idiv, 1) := by decide +kernel
theorem dX11_crossing_157 : decode cX11_crossing 157 = .ok (.aload_n 0, 1) := by decide +kernel
theorem dX11_crossing_158 : decode cX11_crossing 158 = .ok (.getfield 53, 3) := by decide +kernel
theorem dX11_crossing_161 : decode cX11_crossing 161 = .ok (.iload 5, 2) := by decide +kernel
theorem dX11_crossing_163 : decode cX11_crossing 163 = .ok (.iaload, 1) := by decide +kernel
theorem dX11_crossing_164 : decode cX11_crossing 164 = .ok (.iadd, 1) := by decide +kernel
theorem dX11_crossing_165 : decode cX11_crossing 165 = .ok (.goto 4, 3) := by decide +kernel
theorem dX11_crossing_168 : decode cX11_crossing 168 = .ok (.iconst 0, 1) := by decide +kernel
theorem dX11_crossing_169 : decode cX11_crossing 169 = .ok (.iadd, 1) := by decide +kernel
theorem dX11_crossing_170 : decode cX11_crossing 170 = .ok (.istore 4, 2) := by decide +kernel
theorem dX11_crossing_172 : decode cX11_crossing 172 = .ok (.iinc 5 1, 3) := by decide +kernel
theorem dX11_crossing_175 : decode cX11_crossing 175 = .ok (.goto (-169), 3) := by decide +kernel
theorem dX11_crossing_178 : decode cX11_crossing 178 = .ok (.iload 4, 2) := by decide +kernel
theorem dX11_crossing_180 : decode cX11_crossing 180 = .ok (.ireturn, 1) := by decide +kernel
theorem dX11_divide_0 : decode cX11_divide 0 = .ok (.iconst 0, 1) := by decide +kernel
theorem dX11_divide_1 : decode cX11_divide 1 = .ok (.istore_n 1, 1) := by decide +kernel
theorem dX11_divide_2 : decode cX11_divide 2 = .ok (.iload_n 1, 1) := by decide +kernel
theorem dX11_divide_3 : decode cX11_divide 3 = .ok (.aload_n 0, 1) := by decide +kernel
theorem dX11_divide_4 : decode cX11_divide 4 = .ok (.getfield 202, 3) := by decide +kernel
theorem dX11_divide_7 : decode cX11_divide 7 = .ok (.if_icmp .ge 98, 3) := by decide +kernel
theorem dX11_divide_10 : decode cX11_divide 10 = .ok (.aload_n 0, 1) := by decide +kernel
theorem dX11_divide_11 : decode cX11_divide 11 = .ok (.getfield 151, 3) := by decide +kernel
theorem dX11_divide_14 : decode cX11_divide 14 = .ok (.bipush 13, 2) := by decide +kernel
theorem dX11_divide_16 : decode cX11_divide 16 = .ok (.iload_n 1, 1) := by decide +kernel
theorem dX11_divide_17 : decode cX11_divide 17 = .ok (.imul, 1) := by decide +kernel
theorem dX11_divide_18 : decode cX11_divide 18 = .ok (.aload_n 0, 1) := by decide +kernel
theorem dX11_divide_19 : decode cX11_divide 19 = .ok (.getfield 95, 3) := by decide +kernel
theorem dX11_divide_22 : decode cX11_divide 22 = .ok (.aload_n 0, 1) := by decide +kernel
theorem dX11_divide_23 : decode cX11_divide 23 = .ok (.getfield 144, 3) := by decide +kernel
theorem dX11_divide_26 : decode cX11_divide 26 = .ok (.iload_n 1, 1) := by decide +kernel
theorem dX11_divide_27 : decode cX11_divide 27 = .ok (.iaload, 1) := by decide +kernel
theorem dX11_divide_28 : decode cX11_divide 28 = .ok (.iaload, 1) := by decide +kernel
theorem dX11_divide_29 : decode cX11_divide 29 = .ok (.iastore, 1) := by decide +kernel
theorem dX11_divide_30 : decode cX11_divide 30 = .ok (.aload_n 0, 1) := by decide +kernel
theorem dX11_divide_31 : decode cX11_divide 31 = .ok (.getfield 154, 3) := by decide +kernel
theorem dX11_divide_34 : decode cX11_divide 34 = .ok (.bipush 13, 2) := by decide +kernel
theorem dX11_divide_36 : decode cX11_divide 36 = .ok (.iload_n 1, 1) := by decide +kernel
theorem dX11_divide_37 : decode cX11_divide 37 = .ok (.imul, 1) := by decide +kernel
theorem dX11_divide_38 : decode cX11_divide 38 = .ok (.iconst 0, 1) := by decide +kernel
theorem dX11_divide_39 : decode cX11_divide 39 = .ok (.iastore, 1) := by decide +kernel
theorem dX11_divide_40 : decode cX11_divide 40 = .ok (.iload_n 1, 1) := by decide +kernel
theorem dX11_divide_41 : decode cX11_divide 41 = .ok (.iconst 1, 1) := by decide +kernel
theorem dX11_divide_42 : decode cX11_divide 42 = .ok (.iadd, 1) := by decide +kernel
theorem dX11_divide_43 : decode cX11_divide 43 = .ok (.istore_n 2, 1) := by decide +kernel
theorem dX11_divide_44 : decode cX11_divide 44 = .ok (.iload_n 2, 1) := by decide +kernel
theorem dX11_divide_45 : decode cX11_divide 45 = .ok (.aload_n 0, 1) := by decide +kernel
theorem dX11_divide_46 : decode cX11_divide 46 = .ok (.getfield 202, 3) := by decide +kernel
theorem dX11_divide_49 : decode cX11_divide 49 = .ok (.if_icmp .ge 50, 3) := by decide +kernel
theorem dX11_divide_52 : decode cX11_divide 52 = .ok (.aload_n 0, 1) := by decide +kernel
theorem dX11_divide_53 : decode cX11_divide 53 = .ok (.getfield 151, 3) := by decide +kernel
theorem dX11_divide_56 : decode cX11_divide 56 = .ok (.bipush 12, 2) := by decide +kernel
theorem dX11_divide_58 : decode cX11_divide 58 = .ok (.iload_n 1, 1) := by decide +kernel
theorem dX11_divide_59 : decode cX11_divide 59 = .ok (.imul, 1) := by decide +kernel
theorem dX11_divide_60 : decode cX11_divide 60 = .ok (.iload_n 2, 1) := by decide +kernel
theorem dX11_divide_61 : decode cX11_divide 61 = .ok (.iadd, 1) := by decide +kernel
theorem dX11_divide_62 : decode cX11_divide 62 = .ok (.aload_n 0, 1) := by decide +kernel
theorem dX11_divide_63 : decode cX11_divide 63 = .ok (.getfield 151, 3) := by decide +kernel
theorem dX11_divide_66 : decode cX11_divide 66 = .ok (.bipush 12, 2) := by decide +kernel
theorem dX11_divide_68 : decode cX11_divide 68 = .ok (.iload_n 1, 1) := by decide +kernel
theorem dX11_divide_69 : decode cX11_divide 69 = .ok (.imul, 1) := by decide +kernel
theorem dX11_divide_70 : decode cX11_divide 70 = .ok (.iload_n 2, 1) := by decide +kernel
theorem dX11_divide_71 : decode cX11_divide 71 = .ok (.iadd, 1) := by decide +kernel
theorem dX11_divide_72 : decode cX11_divide 72 = .ok (.iconst 1, 1) := by decide +kernel
theorem dX11_divide_73 : decode cX11_divide 73 = .ok (.isub, 1) := by decide +kernel
theorem dX11_divide_74 : decode cX11_divide 74 = .ok (.iaload, 1) := by decide +kernel
theorem dX11_divide_75 : decode cX11_divide 75 = .ok (.i2l, 1) := by decide +kernel
theorem dX11_divide_76 : decode cX11_divide 76 = .ok (.aload_n 0, 1) := by decide +kernel
theorem dX11_divide_77 : decode cX11_divide 77 = .ok (.getfield 95, 3) := by decide +kernel
theorem dX11_divide_80 : decode cX11_divide 80 = .ok (.aload_n 0, 1) := by decide +kernel
theorem dX11_divide_81 : decode cX11_divide 81 = .ok (.getfield 144, 3) := by decide +kernel
theorem dX11_divide_84 : decode cX11_divide 84 = .ok (.iload_n 2, 1) := by decide +kernel
theorem dX11_divide_85 : decode cX11_divide 85 = .ok (.iaload, 1) := by decide +kernel
theorem dX11_divide_86 : decode cX11_divide 86 = .ok (.iaload, 1) := by decide +kernel
theorem dX11_divide_87 : decode cX11_divide 87 = .ok (.i2l, 1) := by decide +kernel
theorem dX11_divide_88 : decode cX11_divide 88 = .ok (.invokestatic 248, 3) := by decide +kernel
theorem dX11_divide_91 : decode cX11_divide 91 = .ok (.l2i, 1) := by decide +kernel
theorem dX11_divide_92 : decode cX11_divide 92 = .ok (.iastore, 1) := by decide +kernel
theorem dX11_divide_93 : decode cX11_divide 93 = .ok (.iinc 2 1, 3) := by decide +kernel
theorem dX11_divide_96 : decode cX11_divide 96 = .ok (.goto (-52), 3) := by decide +kernel
theorem dX11_divide_99 : decode cX11_divide 99 = .ok (.iinc 1 1, 3) := by decide +kernel
theorem dX11_divide_102 : decode cX11_divide 102 = .ok (.goto (-100), 3) := by decide +kernel
theorem dX11_divide_105 : decode cX11_divide 105 = .ok (.iconst 1, 1) := by decide +kernel
theorem dX11_divide_106 : decode cX11_divide 106 = .ok (.istore_n 1, 1) := by decide +kernel
theorem dX11_divide_107 : decode cX11_divide 107 = .ok (.iload_n 1, 1) := by decide +kernel
theorem dX11_divide_108 : decode cX11_divide 108 = .ok (.aload_n 0, 1) := by decide +kernel
theorem dX11_divide_109 : decode cX11_divide 109 = .ok (.getfield 202, 3) := by decide +kernel
theorem dX11_divide_112 : decode cX11_divide 112 = .ok (.if_icmp .ge 153, 3) := by decide +kernel
theorem dX11_divide_115 : decode cX11_divide 115 = .ok (.iconst 0, 1) := by decide +kernel
theorem dX11_divide_116 : decode cX11_divide 116 = .ok (.istore_n 2, 1) := by decide +kernel
theorem dX11_divide_117 : decode cX11_divide 117 = .ok (.iload_n 2, 1) := by decide +kernel
theorem dX11_divide_118 : decode cX11_divide 118 = .ok (.iload_n 1, 1) := by decide +kernel
theorem dX11_divide_119 : decode cX11_divide 119 = .ok (.iadd, 1) := by decide +kernel
theorem dX11_divide_120 : decode cX11_divide 120 = .ok (.aload_n 0, 1) := by decide +kernel
theorem dX11_divide_121 : decode cX11_divide 121 = .ok (.getfield 202, 3) := by decide +kernel
theorem dX11_divide_124 : decode cX11_divide 124 = .ok (.if_icmp .ge 135, 3) := by decide +kernel
theorem dX11_divide_127 : decode cX11_divide 127 = .ok (.iload_n 2, 1) := by decide +kernel
theorem dX11_divide_128 : decode cX11_divide 128 = .ok (.iload_n 1, 1) := by decide +kernel
theorem dX11_divide_129 : decode cX11_divide 129 = .ok (.iadd, 1) := by decide +kernel
theorem dX11_divide_130 : decode cX11_divide 130 = .ok (.istore_n 3, 1) := by decide +kernel
theorem dX11_divide_131 : decode cX11_divide 131 = .ok (.aload_n 0, 1) := by decide +kernel
theorem dX11_divide_132 : decode cX11_divide 132 = .ok (.getfield 157, 3) := by decide +kernel
theorem dX11_divide_135 : decode cX11_divide 135 = .ok (.bipush 12, 2) := by decide +kernel
theorem dX11_divide_137 : decode cX11_divide 137 = .ok (.iload_n 2, 1) := by decide +kernel
theorem dX11_divide_138 : decode cX11_divide 138 = .ok (.imul, 1) := by decide +kernel
theorem dX11_divide_139 : decode cX11_divide 139 = .ok (.iload_n 3, 1) := by decide +kernel
theorem dX11_divide_140 : decode cX11_divide 140 = .ok (.iadd, 1) := by decide +kernel
theorem dX11_divide_141 : decode cX11_divide 141 = .ok (.bipush (-9), 2) := by decide +kernel
theorem dX11_divide_143 : decode cX11_divide 143 = .ok (.iastore, 1) := by decide +kernel
theorem dX11_divide_144 : decode cX11_divide 144 = .ok (.iload_n 2, 1) := by decide +kernel
theorem dX11_divide_145 : decode cX11_divide 145 = .ok (.istore 4, 2) := by decide +kernel
theorem dX11_divide_147 : decode cX11_divide 147 = .ok (.iload 4, 2) := by decide +kernel
theorem dX11_divide_149 : decode cX11_divide 149 = .ok (.iload_n 3, 1) := by decide +kernel
theorem dX11_divide_150 : decode cX11_divide 150 = .ok (.if_icmp .ge 103, 3) := by decide +kernel
theorem dX11_divide_153 : decode cX11_divide 153 = .ok (.aload_n 0, 1) := by decide +kernel
theorem dX11_divide_154 : decode cX11_divide 154 = .ok (.getfield 154, 3) := by decide +kernel
theorem dX11_divide_157 : decode cX11_divide 157 = .ok (.bipush 12, 2) := by decide +kernel
theorem dX11_divide_159 : decode cX11_divide 159 = .ok (.iload_n 2, 1) := by decide +kernel
theorem dX11_divide_160 : decode cX11_divide 160 = .ok (.imul, 1) := by decide +kernel
theorem dX11_divide_161 : decode cX11_divide 161 = .ok (.iload 4, 2) := by decide +kernel
theorem dX11_divide_163 : decode cX11_divide 163 = .ok (.iadd, 1) := by decide +kernel
theorem dX11_divide_164 : decode cX11_divide 164 = .ok (.iaload, 1) := by decide +kernel
theorem dX11_divide_165 : decode cX11_divide 165 = .ok (.aload_n 0, 1) := by decide +kernel
theorem dX11_divide_166 : decode cX11_divide 166 = .ok (.getfield 154, 3) := by decide +kernel
theorem dX11_divide_169 : decode cX11_divide 169 = .ok (.bipush 12, 2) := by decide +kernel
theorem dX11_divide_171 : decode cX11_divide 171 = .ok (.iload 4, 2) := by decide +kernel
theorem dX11_divide_173 : decode cX11_divide 173 = .ok (.iconst 1, 1) := by decide +kernel
theorem dX11_divide_174 : decode cX11_divide 174 = .ok (.iadd, 1) := by decide +kernel
theorem dX11_divide_175 : decode cX11_divide 175 = .ok (.imul, 1) := by decide +kernel
theorem dX11_divide_176 : decode cX11_divide 176 = .ok (.iload_n 3, 1) := by decide +kernel
theorem dX11_divide_177 : decode cX11_divide 177 = .ok (.iadd, 1) := by decide +kernel
theorem dX11_divide_178 : decode cX11_divide 178 = .ok (.iaload, 1) := by decide +kernel
theorem dX11_divide_179 : decode cX11_divide 179 = .ok (.iadd, 1) := by decide +kernel
theorem dX11_divide_180 : decode cX11_divide 180 = .ok (.aload_n 0, 1) := by decide +kernel
theorem dX11_divide_181 : decode cX11_divide 181 = .ok (.iload_n 2, 1) := by decide +kernel
theorem dX11_divide_182 : decode cX11_divide 182 = .ok (.iload 4, 2) := by decide +kernel
theorem dX11_divide_184 : decode cX11_divide 184 = .ok (.iload_n 3, 1) := by decide +kernel
theorem dX11_divide_185 : decode cX11_divide 185 = .ok (.invokevirtual 345, 3) := by decide +kernel
theorem dX11_divide_188 : decode cX11_divide 188 = .ok (.iadd, 1) := by decide +kernel
theorem dX11_divide_189 : decode cX11_divide 189 = .ok (.istore 5, 2) := by decide +kernel
theorem dX11_divide_191 : decode cX11_divide 191 = .ok (.aload_n 0, 1) := by decide +kernel
theorem dX11_divide_192 : decode cX11_divide 192 = .ok (.getfield 157, 3) := by decide +kernel
theorem dX11_divide_195 : decode cX11_divide 195 = .ok (.bipush 12, 2) := by decide +kernel
theorem dX11_divide_197 : decode cX11_divide 197 = .ok (.iload_n 2, 1) := by decide +kernel
theorem dX11_divide_198 : decode cX11_divide 198 = .ok (.imul, 1) := by decide +kernel
theorem dX11_divide_199 : decode cX11_divide 199 = .ok (.iload_n 3, 1) := by decide +kernel
theorem dX11_divide_200 : decode cX11_divide 200 = .ok (.iadd, 1) := by decide +kernel
theorem dX11_divide_201 : decode cX11_divide 201 = .ok (.iaload, 1) := by decide +kernel
theorem dX11_divide_202 : decode cX11_divide 202 = .ok (.ifCond .lt 19, 3) := by decide +kernel
theorem dX11_divide_205 : decode cX11_divide 205 = .ok (.iload 5, 2) := by decide +kernel
theorem dX11_divide_207 : decode cX11_divide 207 = .ok (.aload_n 0, 1) := by decide +kernel
theorem dX11_divide_208 : decode cX11_divide 208 = .ok (.getfield 154, 3) := by decide +kernel
theorem dX11_divide_211 : decode cX11_divide 211 = .ok (.bipush 12, 2) := by decide +kernel
theorem dX11_divide_213 : decode cX11_divide 213 = .ok (.iload_n 2, 1) := by decide +kernel
theorem dX11_divide_214 : decode cX11_divide 214 = .ok (.imul, 1) := by decide +kernel
theorem dX11_divide_215 : decode cX11_divide 215 = .ok (.iload_n 3, 1) := by decide +kernel
theorem dX11_divide_216 : decode cX11_divide 216 = .ok (.iadd, 1) := by decide +kernel
theorem dX11_divide_217 : decode cX11_divide 217 = .ok (.iaload, 1) := by decide +kernel
theorem dX11_divide_218 : decode cX11_divide 218 = .ok (.if_icmp .ge 29, 3) := by decide +kernel
theorem dX11_divide_221 : decode cX11_divide 221 = .ok (.aload_n 0, 1) := by decide +kernel
theorem dX11_divide_222 : decode cX11_divide 222 = .ok (.getfield 157, 3) := by decide +kernel
theorem dX11_divide_225 : decode cX11_divide 225 = .ok (.bipush 12, 2) := by decide +kernel
theorem dX11_divide_227 : decode cX11_divide 227 = .ok (.iload_n 2, 1) := by decide +kernel
theorem dX11_divide_228 : decode cX11_divide 228 = .ok (.imul, 1) := by decide +kernel
theorem dX11_divide_229 : decode cX11_divide 229 = .ok (.iload_n 3, 1) := by decide +kernel
theorem dX11_divide_230 : decode cX11_divide 230 = .ok (.iadd, 1) := by decide +kernel
theorem dX11_divide_231 : decode cX11_divide 231 = .ok (.iload 4, 2) := by decide +kernel
theorem dX11_divide_233 : decode cX11_divide 233 = .ok (.iastore, 1) := by decide +kernel
theorem dX11_divide_234 : decode cX11_divide 234 = .ok (.aload_n 0, 1) := by decide +kernel
theorem dX11_divide_235 : decode cX11_divide 235 = .ok (.getfield 154, 3) := by decide +kernel
theorem dX11_divide_238 : decode cX11_divide 238 = .ok (.bipush 12, 2) := by decide +kernel
theorem dX11_divide_240 : decode cX11_divide 240 = .ok (.iload_n 2, 1) := by decide +kernel
theorem dX11_divide_241 : decode cX11_divide 241 = .ok (.imul, 1) := by decide +kernel
theorem dX11_divide_242 : decode cX11_divide 242 = .ok (.iload_n 3, 1) := by decide +kernel
theorem dX11_divide_243 : decode cX11_divide 243 = .ok (.iadd, 1) := by decide +kernel
theorem dX11_divide_244 : decode cX11_divide 244 = .ok (.iload 5, 2) := by decide +kernel
theorem dX11_divide_246 : decode cX11_divide 246 = .ok (.iastore, 1) := by decide +kernel
theorem dX11_divide_247 : decode cX11_divide 247 = .ok (.iinc 4 1, 3) := by decide +kernel
theorem dX11_divide_250 : decode cX11_divide 250 = .ok (.goto (-103), 3) := by decide +kernel
theorem dX11_divide_253 : decode cX11_divide 253 = .ok (.iinc 2 1, 3) := by decide +kernel
theorem dX11_divide_256 : decode cX11_divide 256 = .ok (.goto (-139), 3) := by decide +kernel
theorem dX11_divide_259 : decode cX11_divide 259 = .ok (.iinc 1 1, 3) := by decide +kernel
theorem dX11_divide_262 : decode cX11_divide 262 = .ok (.goto (-155), 3) := by decide +kernel
theorem dX11_divide_265 : decode cX11_divide 265 = .ok (.return_, 1) := by decide +kernel
theorem dX11_item_0 : decode cX11_item 0 = .ok (.aload_n 0, 1) := by decide +kernel
theorem dX11_item_1 : decode cX11_item 1 = .ok (.getfield 160, 3) := by decide +kernel
theorem dX11_item_4 : decode cX11_item 4 = .ok (.aload_n 0, 1) := by decide +kernel
theorem dX11_item_5 : decode cX11_item 5 = .ok (.getfield 163, 3) := by decide +kernel
theorem dX11_item_8 : decode cX11_item 8 = .ok (.iload_n 1, 1) := by decide +kernel
theorem dX11_item_9 : decode cX11_item 9 = .ok (.iastore, 1) := by decide +kernel
theorem dX11_item_10 : decode cX11_item 10 = .ok (.aload_n 0, 1) := by decide +kernel
theorem dX11_item_11 : decode cX11_item 11 = .ok (.dup, 1) := by decide +kernel
theorem dX11_item_12 : decode cX11_item 12 = .ok (.getfield 163, 3) := by decide +kernel
theorem dX11_item_15 : decode cX11_item 15 = .ok (.iconst 1, 1) := by decide +kernel
theorem dX11_item_16 : decode cX11_item 16 = .ok (.iadd, 1) := by decide +kernel
theorem dX11_item_17 : decode cX11_item 17 = .ok (.putfield 163, 3) := by decide +kernel
theorem dX11_item_20 : decode cX11_item 20 = .ok (.return_, 1) := by decide +kernel
theorem dX11_write_0 : decode cX11_write 0 = .ok (.aload_n 0, 1) := by decide +kernel
theorem dX11_write_1 : decode cX11_write 1 = .ok (.iconst 0, 1) := by decide +kernel
theorem dX11_write_2 : decode cX11_write 2 = .ok (.putfield 163, 3) := by decide +kernel
theorem dX11_write_5 : decode cX11_write 5 = .ok (.iconst 1, 1) := by decide +kernel
theorem dX11_write_6 : decode cX11_write 6 = .ok (.istore_n 1, 1) := by decide +kernel
theorem dX11_write_7 : decode cX11_write 7 = .ok (.aload_n 0, 1) := by decide +kernel
theorem dX11_write_8 : decode cX11_write 8 = .ok (.getfield 166, 3) := by decide +kernel
theorem dX11_write_11 : decode cX11_write 11 = .ok (.iconst 0, 1) := by decide +kernel
theorem dX11_write_12 : decode cX11_write 12 = .ok (.iconst 0, 1) := by decide +kernel
theorem dX11_write_13 : decode cX11_write 13 = .ok (.iastore, 1) := by decide +kernel
theorem dX11_write_14 : decode cX11_write 14 = .ok (.aload_n 0, 1) := by decide +kernel
theorem dX11_write_15 : decode cX11_write 15 = .ok (.getfield 166, 3) := by decide +kernel
theorem dX11_write_18 : decode cX11_write 18 = .ok (.iconst 1, 1) := by decide +kernel
theorem dX11_write_19 : decode cX11_write 19 = .ok (.aload_n 0, 1) := by decide +kernel
theorem dX11_write_20 : decode cX11_write 20 = .ok (.getfield 202, 3) := by decide +kernel
theorem dX11_write_23 : decode cX11_write 23 = .ok (.iconst 1, 1) := by decide +kernel
theorem dX11_write_24 : decode cX11_write 24 = .ok (.isub, 1) := by decide +kernel
theorem dX11_write_25 : decode cX11_write 25 = .ok (.iastore, 1) := by decide +kernel
theorem dX11_write_26 : decode cX11_write 26 = .ok (.aload_n 0, 1) := by decide +kernel
theorem dX11_write_27 : decode cX11_write 27 = .ok (.getfield 166, 3) := by decide +kernel
theorem dX11_write_30 : decode cX11_write 30 = .ok (.iconst 2, 1) := by decide +kernel
theorem dX11_write_31 : decode cX11_write 31 = .ok (.iconst 1, 1) := by decide +kernel
theorem dX11_write_32 : decode cX11_write 32 = .ok (.iastore, 1) := by decide +kernel
theorem dX11_write_33 : decode cX11_write 33 = .ok (.iload_n 1, 1) := by decide +kernel
theorem dX11_write_34 : decode cX11_write 34 = .ok (.ifCond .le 228, 3) := by decide +kernel
theorem dX11_write_37 : decode cX11_write 37 = .ok (.iinc 1 (-1), 3) := by decide +kernel
theorem dX11_write_40 : decode cX11_write 40 = .ok (.aload_n 0, 1) := by decide +kernel
theorem dX11_write_41 : decode cX11_write 41 = .ok (.getfield 166, 3) := by decide +kernel
theorem dX11_write_44 : decode cX11_write 44 = .ok (.iconst 3, 1) := by decide +kernel
theorem dX11_write_45 : decode cX11_write 45 = .ok (.iload_n 1, 1) := by decide +kernel
theorem dX11_write_46 : decode cX11_write 46 = .ok (.imul, 1) := by decide +kernel
theorem dX11_write_47 : decode cX11_write 47 = .ok (.iaload, 1) := by decide +kernel
theorem dX11_write_48 : decode cX11_write 48 = .ok (.istore_n 2, 1) := by decide +kernel
theorem dX11_write_49 : decode cX11_write 49 = .ok (.aload_n 0, 1) := by decide +kernel
theorem dX11_write_50 : decode cX11_write 50 = .ok (.getfield 166, 3) := by decide +kernel
theorem dX11_write_53 : decode cX11_write 53 = .ok (.iconst 3, 1) := by decide +kernel
theorem dX11_write_54 : decode cX11_write 54 = .ok (.iload_n 1, 1) := by decide +kernel
theorem dX11_write_55 : decode cX11_write 55 = .ok (.imul, 1) := by decide +kernel
theorem dX11_write_56 : decode cX11_write 56 = .ok (.iconst 1, 1) := by decide +kernel
theorem dX11_write_57 : decode cX11_write 57 = .ok (.iadd, 1) := by decide +kernel
theorem dX11_write_58 : decode cX11_write 58 = .ok (.iaload, 1) := by decide +kernel
theorem dX11_write_59 : decode cX11_write 59 = .ok (.istore_n 3, 1) := by decide +kernel
theorem dX11_write_60 : decode cX11_write 60 = .ok (.aload_n 0, 1) := by decide +kernel
theorem dX11_write_61 : decode cX11_write 61 = .ok (.getfield 166, 3) := by decide +kernel
theorem dX11_write_64 : decode cX11_write 64 = .ok (.iconst 3, 1) := by decide +kernel
theorem dX11_write_65 : decode cX11_write 65 = .ok (.iload_n 1, 1) := by decide +kernel
theorem dX11_write_66 : decode cX11_write 66 = .ok (.imul, 1) := by decide +kernel
theorem dX11_write_67 : decode cX11_write 67 = .ok (.iconst 2, 1) := by decide +kernel
theorem dX11_write_68 : decode cX11_write 68 = .ok (.iadd, 1) := by decide +kernel
theorem dX11_write_69 : decode cX11_write 69 = .ok (.iaload, 1) := by decide +kernel
theorem dX11_write_70 : decode cX11_write 70 = .ok (.istore 4, 2) := by decide +kernel
theorem dX11_write_72 : decode cX11_write 72 = .ok (.iload_n 2, 1) := by decide +kernel
theorem dX11_write_73 : decode cX11_write 73 = .ok (.ifCond .ge 11, 3) := by decide +kernel
theorem dX11_write_76 : decode cX11_write 76 = .ok (.aload_n 0, 1) := by decide +kernel
theorem dX11_write_77 : decode cX11_write 77 = .ok (.iconst 0, 1) := by decide +kernel
theorem dX11_write_78 : decode cX11_write 78 = .ok (.invokevirtual 349, 3) := by decide +kernel
theorem dX11_write_81 : decode cX11_write 81 = .ok (.goto (-48), 3) := by decide +kernel
theorem dX11_write_84 : decode cX11_write 84 = .ok (.aload_n 0, 1) := by decide +kernel
theorem dX11_write_85 : decode cX11_write 85 = .ok (.getfield 151, 3) := by decide +kernel
theorem dX11_write_88 : decode cX11_write 88 = .ok (.bipush 12, 2) := by decide +kernel
theorem dX11_write_90 : decode cX11_write 90 = .ok (.iload_n 2, 1) := by decide +kernel
theorem dX11_write_91 : decode cX11_write 91 = .ok (.imul, 1) := by decide +kernel
theorem dX11_write_92 : decode cX11_write 92 = .ok (.iload_n 3, 1) := by decide +kernel
theorem dX11_write_93 : decode cX11_write 93 = .ok (.iadd, 1) := by decide +kernel
theorem dX11_write_94 : decode cX11_write 94 = .ok (.iaload, 1) := by decide +kernel
theorem dX11_write_95 : decode cX11_write 95 = .ok (.istore 5, 2) := by decide +kernel
theorem dX11_write_97 : decode cX11_write 97 = .ok (.iload 5, 2) := by decide +kernel
theorem dX11_write_99 : decode cX11_write 99 = .ok (.iload 4, 2) := by decide +kernel
theorem dX11_write_101 : decode cX11_write 101 = .ok (.idiv, 1) := by decide +kernel
theorem dX11_write_102 : decode cX11_write 102 = .ok (.istore 6, 2) := by decide +kernel
theorem dX11_write_104 : decode cX11_write 104 = .ok (.iload 6, 2) := by decide +kernel
theorem dX11_write_106 : decode cX11_write 106 = .ok (.iconst 1, 1) := by decide +kernel
theorem dX11_write_107 : decode cX11_write 107 = .ok (.if_icmp .le 11, 3) := by decide +kernel
theorem dX11_write_110 : decode cX11_write 110 = .ok (.aload_n 0, 1) := by decide +kernel
theorem dX11_write_111 : decode cX11_write 111 = .ok (.iload 6, 2) := by decide +kernel
theorem dX11_write_113 : decode cX11_write 113 = .ok (.iconst 1, 1) := by decide +kernel
theorem dX11_write_114 : decode cX11_write 114 = .ok (.iadd, 1) := by decide +kernel
theorem dX11_write_115 : decode cX11_write 115 = .ok (.invokevirtual 349, 3) := by decide +kernel
theorem dX11_write_118 : decode cX11_write 118 = .ok (.iload_n 2, 1) := by decide +kernel
theorem dX11_write_119 : decode cX11_write 119 = .ok (.iload_n 3, 1) := by decide +kernel
theorem dX11_write_120 : decode cX11_write 120 = .ok (.if_icmp .ne 29, 3) := by decide +kernel
theorem dX11_write_123 : decode cX11_write 123 = .ok (.aload_n 0, 1) := by decide +kernel
theorem dX11_write_124 : decode cX11_write 124 = .ok (.iconst (-1), 1) := by decide +kernel
theorem dX11_write_125 : decode cX11_write 125 = .ok (.aload_n 0, 1) := by decide +kernel
theorem dX11_write_126 : decode cX11_write 126 = .ok (.getfield 144, 3) := by decide +kernel
theorem dX11_write_129 : decode cX11_write 129 = .ok (.iload_n 2, 1) := by decide +kernel
theorem dX11_write_130 : decode cX11_write 130 = .ok (.iaload, 1) := by decide +kernel
theorem dX11_write_131 : decode cX11_write 131 = .ok (.isub, 1) := by decide +kernel
theorem dX11_write_132 : decode cX11_write 132 = .ok (.invokevirtual 349, 3) := by decide +kernel
theorem dX11_write_135 : decode cX11_write 135 = .ok (.iload 6, 2) := by decide +kernel
theorem dX11_write_137 : decode cX11_write 137 = .ok (.iconst 1, 1) := by decide +kernel
theorem dX11_write_138 : decode cX11_write 138 = .ok (.if_icmp .le (-105), 3) := by decide +kernel
theorem dX11_write_141 : decode cX11_write 141 = .ok (.aload_n 0, 1) := by decide +kernel
theorem dX11_write_142 : decode cX11_write 142 = .ok (.iconst 0, 1) := by decide +kernel
theorem dX11_write_143 : decode cX11_write 143 = .ok (.invokevirtual 349, 3) := by decide +kernel
theorem dX11_write_146 : decode cX11_write 146 = .ok (.goto (-113), 3) := by decide +kernel
theorem dX11_write_149 : decode cX11_write 149 = .ok (.iload 6, 2) := by decide +kernel
theorem dX11_write_151 : decode cX11_write 151 = .ok (.iconst 1, 1) := by decide +kernel
theorem dX11_write_152 : decode cX11_write 152 = .ok (.if_icmp .le 15, 3) := by decide +kernel
theorem dX11_write_155 : decode cX11_write 155 = .ok (.aload_n 0, 1) := by decide +kernel
theorem dX11_write_156 : decode cX11_write 156 = .ok (.getfield 166, 3) := by decide +kernel
theorem dX11_write_159 : decode cX11_write 159 = .ok (.iconst 3, 1) := by decide +kernel
theorem dX11_write_160 : decode cX11_write 160 = .ok (.iload_n 1, 1) := by decide +kernel
theorem dX11_write_161 : decode cX11_write 161 = .ok (.imul, 1) := by decide +kernel
theorem dX11_write_162 : decode cX11_write 162 = .ok (.iconst (-1), 1) := by decide +kernel
theorem dX11_write_163 : decode cX11_write 163 = .ok (.iastore, 1) := by decide +kernel
theorem dX11_write_164 : decode cX11_write 164 = .ok (.iinc 1 1, 3) := by decide +kernel
theorem dX11_write_167 : decode cX11_write 167 = .ok (.aload_n 0, 1) := by decide +kernel
theorem dX11_write_168 : decode cX11_write 168 = .ok (.getfield 166, 3) := by decide +kernel
theorem dX11_write_171 : decode cX11_write 171 = .ok (.iconst 3, 1) := by decide +kernel
theorem dX11_write_172 : decode cX11_write 172 = .ok (.iload_n 1, 1) := by decide +kernel
theorem dX11_write_173 : decode cX11_write 173 = .ok (.imul, 1) := by decide +kernel
theorem dX11_write_174 : decode cX11_write 174 = .ok (.aload_n 0, 1) := by decide +kernel
theorem dX11_write_175 : decode cX11_write 175 = .ok (.getfield 157, 3) := by decide +kernel
theorem dX11_write_178 : decode cX11_write 178 = .ok (.bipush 12, 2) := by decide +kernel
theorem dX11_write_180 : decode cX11_write 180 = .ok (.iload_n 2, 1) := by decide +kernel
theorem dX11_write_181 : decode cX11_write 181 = .ok (.imul, 1) := by decide +kernel
theorem dX11_write_182 : decode cX11_write 182 = .ok (.iload_n 3, 1) := by decide +kernel
theorem dX11_write_183 : decode cX11_write 183 = .ok (.iadd, 1) := by decide +kernel
theorem dX11_write_184 : decode cX11_write 184 = .ok (.iaload, 1) := by decide +kernel
theorem dX11_write_185 : decode cX11_write 185 = .ok (.iconst 1, 1) := by decide +kernel
theorem dX11_write_186 : decode cX11_write 186 = .ok (.iadd, 1) := by decide +kernel
theorem dX11_write_187 : decode cX11_write 187 = .ok (.iastore, 1) := by decide +kernel
theorem dX11_write_188 : decode cX11_write 188 = .ok (.aload_n 0, 1) := by decide +kernel
theorem dX11_write_189 : decode cX11_write 189 = .ok (.getfield 166, 3) := by decide +kernel
theorem dX11_write_192 : decode cX11_write 192 = .ok (.iconst 3, 1) := by decide +kernel
theorem dX11_write_193 : decode cX11_write 193 = .ok (.iload_n 1, 1) := by decide +kernel
theorem dX11_write_194 : decode cX11_write 194 = .ok (.imul, 1) := by decide +kernel
theorem dX11_write_195 : decode cX11_write 195 = .ok (.iconst 1, 1) := by decide +kernel
theorem dX11_write_196 : decode cX11_write 196 = .ok (.iadd, 1) := by decide +kernel
theorem dX11_write_197 : decode cX11_write 197 = .ok (.iload_n 3, 1) := by decide +kernel
theorem dX11_write_198 : decode cX11_write 198 = .ok (.iastore, 1) := by decide +kernel
theorem dX11_write_199 : decode cX11_write 199 = .ok (.aload_n 0, 1) := by decide +kernel
theorem dX11_write_200 : decode cX11_write 200 = .ok (.getfield 166, 3) := by decide +kernel
theorem dX11_write_203 : decode cX11_write 203 = .ok (.iconst 3, 1) := by decide +kernel
theorem dX11_write_204 : decode cX11_write 204 = .ok (.iload_n 1, 1) := by decide +kernel
theorem dX11_write_205 : decode cX11_write 205 = .ok (.imul, 1) := by decide +kernel
theorem dX11_write_206 : decode cX11_write 206 = .ok (.iconst 2, 1) := by decide +kernel
theorem dX11_write_207 : decode cX11_write 207 = .ok (.iadd, 1) := by decide +kernel
theorem dX11_write_208 : decode cX11_write 208 = .ok (.iload 5, 2) := by decide +kernel
theorem dX11_write_210 : decode cX11_write 210 = .ok (.iastore, 1) := by decide +kernel
theorem dX11_write_211 : decode cX11_write 211 = .ok (.iinc 1 1, 3) := by decide +kernel
theorem dX11_write_214 : decode cX11_write 214 = .ok (.aload_n 0, 1) := by decide +kernel
theorem dX11_write_215 : decode cX11_write 215 = .ok (.getfield 166, 3) := by decide +kernel
theorem dX11_write_218 : decode cX11_write 218 = .ok (.iconst 3, 1) := by decide +kernel
theorem dX11_write_219 : decode cX11_write 219 = .ok (.iload_n 1, 1) := by decide +kernel
theorem dX11_write_220 : decode cX11_write 220 = .ok (.imul, 1) := by decide +kernel
theorem dX11_write_221 : decode cX11_write 221 = .ok (.iload_n 2, 1) := by decide +kernel
theorem dX11_write_222 : decode cX11_write 222 = .ok (.iastore, 1) := by decide +kernel
theorem dX11_write_223 : decode cX11_write 223 = .ok (.aload_n 0, 1) := by decide +kernel
theorem dX11_write_224 : decode cX11_write 224 = .ok (.getfield 166, 3) := by decide +kernel
theorem dX11_write_227 : decode cX11_write 227 = .ok (.iconst 3, 1) := by decide +kernel
theorem dX11_write_228 : decode cX11_write 228 = .ok (.iload_n 1, 1) := by decide +kernel
theorem dX11_write_229 : decode cX11_write 229 = .ok (.imul, 1) := by decide +kernel
theorem dX11_write_230 : decode cX11_write 230 = .ok (.iconst 1, 1) := by decide +kernel
theorem dX11_write_231 : decode cX11_write 231 = .ok (.iadd, 1) := by decide +kernel
theorem dX11_write_232 : decode cX11_write 232 = .ok (.aload_n 0, 1) := by decide +kernel
theorem dX11_write_233 : decode cX11_write 233 = .ok (.getfield 157, 3) := by decide +kernel
theorem dX11_write_236 : decode cX11_write 236 = .ok (.bipush 12, 2) := by decide +kernel
theorem dX11_write_238 : decode cX11_write 238 = .ok (.iload_n 2, 1) := by decide +kernel
theorem dX11_write_239 : decode cX11_write 239 = .ok (.imul, 1) := by decide +kernel
theorem dX11_write_240 : decode cX11_write 240 = .ok (.iload_n 3, 1) := by decide +kernel
theorem dX11_write_241 : decode cX11_write 241 = .ok (.iadd, 1) := by decide +kernel
theorem dX11_write_242 : decode cX11_write 242 = .ok (.iaload, 1) := by decide +kernel
theorem dX11_write_243 : decode cX11_write 243 = .ok (.iastore, 1) := by decide +kernel
theorem dX11_write_244 : decode cX11_write 244 = .ok (.aload_n 0, 1) := by decide +kernel
theorem dX11_write_245 : decode cX11_write 245 = .ok (.getfield 166, 3) := by decide +kernel
theorem dX11_write_248 : decode cX11_write 248 = .ok (.iconst 3, 1) := by decide +kernel
theorem dX11_write_249 : decode cX11_write 249 = .ok (.iload_n 1, 1) := by decide +kernel
theorem dX11_write_250 : decode cX11_write 250 = .ok (.imul, 1) := by decide +kernel
theorem dX11_write_251 : decode cX11_write 251 = .ok (.iconst 2, 1) := by decide +kernel
theorem dX11_write_252 : decode cX11_write 252 = .ok (.iadd, 1) := by decide +kernel
theorem dX11_write_253 : decode cX11_write 253 = .ok (.iload 5, 2) := by decide +kernel
theorem dX11_write_255 : decode cX11_write 255 = .ok (.iastore, 1) := by decide +kernel
theorem dX11_write_256 : decode cX11_write 256 = .ok (.iinc 1 1, 3) := by decide +kernel
theorem dX11_write_259 : decode cX11_write 259 = .ok (.goto (-226), 3) := by decide +kernel
theorem dX11_write_262 : decode cX11_write 262 = .ok (.return_, 1) := by decide +kernel
theorem dX11_unfold_0 : decode cX11_unfold 0 = .ok (.iconst 0, 1) := by decide +kernel
theorem dX11_unfold_1 : decode cX11_unfold 1 = .ok (.istore_n 1, 1) := by decide +kernel
theorem dX11_unfold_2 : decode cX11_unfold 2 = .ok (.iconst 0, 1) := by decide +kernel
theorem dX11_unfold_3 : decode cX11_unfold 3 = .ok (.istore_n 2, 1) := by decide +kernel
theorem dX11_unfold_4 : decode cX11_unfold 4 = .ok (.iconst 0, 1) := by decide +kernel
theorem dX11_unfold_5 : decode cX11_unfold 5 = .ok (.istore_n 3, 1) := by decide +kernel
theorem dX11_unfold_6 : decode cX11_unfold 6 = .ok (.iload_n 3, 1) := by decide +kernel
theorem dX11_unfold_7 : decode cX11_unfold 7 = .ok (.aload_n 0, 1) := by decide +kernel
theorem dX11_unfold_8 : decode cX11_unfold 8 = .ok (.getfield 163, 3) := by decide +kernel
theorem dX11_unfold_11 : decode cX11_unfold 11 = .ok (.if_icmp .ge 104, 3) := by decide +kernel
theorem dX11_unfold_14 : decode cX11_unfold 14 = .ok (.aload_n 0, 1) := by decide +kernel
theorem dX11_unfold_15 : decode cX11_unfold 15 = .ok (.getfield 160, 3) := by decide +kernel
theorem dX11_unfold_18 : decode cX11_unfold 18 = .ok (.iload_n 3, 1) := by decide +kernel
theorem dX11_unfold_19 : decode cX11_unfold 19 = .ok (.iaload, 1) := by decide +kernel
theorem dX11_unfold_20 : decode cX11_unfold 20 = .ok (.istore 4, 2) := by decide +kernel
theorem dX11_unfold_22 : decode cX11_unfold 22 = .ok (.iinc 3 1, 3) := by decide +kernel
theorem dX11_unfold_25 : decode cX11_unfold 25 = .ok (.iload 4, 2) := by decide +kernel
theorem dX11_unfold_27 : decode cX11_unfold 27 = .ok (.ifCond .le 26, 3) := by decide +kernel
theorem dX11_unfold_30 : decode cX11_unfold 30 = .ok (.aload_n 0, 1) := by decide +kernel
theorem dX11_unfold_31 : decode cX11_unfold 31 = .ok (.getfield 169, 3) := by decide +kernel
theorem dX11_unfold_34 : decode cX11_unfold 34 = .ok (.iload_n 2, 1) := by decide +kernel
theorem dX11_unfold_35 : decode cX11_unfold 35 = .ok (.iload_n 3, 1) := by decide +kernel
theorem dX11_unfold_36 : decode cX11_unfold 36 = .ok (.iastore, 1) := by decide +kernel
theorem dX11_unfold_37 : decode cX11_unfold 37 = .ok (.aload_n 0, 1) := by decide +kernel
theorem dX11_unfold_38 : decode cX11_unfold 38 = .ok (.getfield 172, 3) := by decide +kernel
theorem dX11_unfold_41 : decode cX11_unfold 41 = .ok (.iload_n 2, 1) := by decide +kernel
theorem dX11_unfold_42 : decode cX11_unfold 42 = .ok (.iload 4, 2) := by decide +kernel
theorem dX11_unfold_44 : decode cX11_unfold 44 = .ok (.iconst 2, 1) := by decide +kernel
theorem dX11_unfold_45 : decode cX11_unfold 45 = .ok (.isub, 1) := by decide +kernel
theorem dX11_unfold_46 : decode cX11_unfold 46 = .ok (.iastore, 1) := by decide +kernel
theorem dX11_unfold_47 : decode cX11_unfold 47 = .ok (.iinc 2 1, 3) := by decide +kernel
theorem dX11_unfold_50 : decode cX11_unfold 50 = .ok (.goto 62, 3) := by decide +kernel
theorem dX11_unfold_53 : decode cX11_unfold 53 = .ok (.iload 4, 2) := by decide +kernel
theorem dX11_unfold_55 : decode cX11_unfold 55 = .ok (.ifCond .ge 19, 3) := by decide +kernel
theorem dX11_unfold_58 : decode cX11_unfold 58 = .ok (.aload_n 0, 1) := by decide +kernel
theorem dX11_unfold_59 : decode cX11_unfold 59 = .ok (.getfield 120, 3) := by decide +kernel
theorem dX11_unfold_62 : decode cX11_unfold 62 = .ok (.iload_n 1, 1) := by decide +kernel
theorem dX11_unfold_63 : decode cX11_unfold 63 = .ok (.iconst (-1), 1) := by decide +kernel
theorem dX11_unfold_64 : decode cX11_unfold 64 = .ok (.iload 4, 2) := by decide +kernel
theorem dX11_unfold_66 : decode cX11_unfold 66 = .ok (.isub, 1) := by decide +kernel
theorem dX11_unfold_67 : decode cX11_unfold 67 = .ok (.iastore, 1) := by decide +kernel
theorem dX11_unfold_68 : decode cX11_unfold 68 = .ok (.iinc 1 1, 3) := by decide +kernel
theorem dX11_unfold_71 : decode cX11_unfold 71 = .ok (.goto 41, 3) := by decide +kernel
theorem dX11_unfold_74 : decode cX11_unfold 74 = .ok (.aload_n 0, 1) := by decide +kernel
theorem dX11_unfold_75 : decode cX11_unfold 75 = .ok (.getfield 172, 3) := by decide +kernel
theorem dX11_unfold_78 : decode cX11_unfold 78 = .ok (.iload_n 2, 1) := by decide +kernel
theorem dX11_unfold_79 : decode cX11_unfold 79 = .ok (.iconst 1, 1) := by decide +kernel
theorem dX11_unfold_80 : decode cX11_unfold 80 = .ok (.isub, 1) := by decide +kernel
theorem dX11_unfold_81 : decode cX11_unfold 81 = .ok (.iaload, 1) := by decide +kernel
theorem dX11_unfold_82 : decode cX11_unfold 82 = .ok (.ifCond .le 27, 3) := by decide +kernel
theorem dX11_unfold_85 : decode cX11_unfold 85 = .ok (.aload_n 0, 1) := by decide +kernel
theorem dX11_unfold_86 : decode cX11_unfold 86 = .ok (.getfield 172, 3) := by decide +kernel
theorem dX11_unfold_89 : decode cX11_unfold 89 = .ok (.iload_n 2, 1) := by decide +kernel
theorem dX11_unfold_90 : decode cX11_unfold 90 = .ok (.iconst 1, 1) := by decide +kernel
theorem dX11_unfold_91 : decode cX11_unfold 91 = .ok (.isub, 1) := by decide +kernel
theorem dX11_unfold_92 : decode cX11_unfold 92 = .ok (.dup2, 1) := by decide +kernel
theorem dX11_unfold_93 : decode cX11_unfold 93 = .ok (.iaload, 1) := by decide +kernel
theorem dX11_unfold_94 : decode cX11_unfold 94 = .ok (.iconst 1, 1) := by decide +kernel
theorem dX11_unfold_95 : decode cX11_unfold 95 = .ok (.isub, 1) := by decide +kernel
theorem dX11_unfold_96 : decode cX11_unfold 96 = .ok (.iastore, 1) := by decide +kernel
theorem dX11_unfold_97 : decode cX11_unfold 97 = .ok (.aload_n 0, 1) := by decide +kernel
theorem dX11_unfold_98 : decode cX11_unfold 98 = .ok (.getfield 169, 3) := by decide +kernel
theorem dX11_unfold_101 : decode cX11_unfold 101 = .ok (.iload_n 2, 1) := by decide +kernel
theorem dX11_unfold_102 : decode cX11_unfold 102 = .ok (.iconst 1, 1) := by decide +kernel
theorem dX11_unfold_103 : decode cX11_unfold 103 = .ok (.isub, 1) := by decide +kernel
theorem dX11_unfold_104 : decode cX11_unfold 104 = .ok (.iaload, 1) := by decide +kernel
theorem dX11_unfold_105 : decode cX11_unfold 105 = .ok (.istore_n 3, 1) := by decide +kernel
theorem dX11_unfold_106 : decode cX11_unfold 106 = .ok (.goto 6, 3) := by decide +kernel
theorem dX11_unfold_109 : decode cX11_unfold 109 = .ok (.iinc 2 (-1), 3) := by decide +kernel
theorem dX11_unfold_112 : decode cX11_unfold 112 = .ok (.goto (-106), 3) := by decide +kernel
theorem dX11_unfold_115 : decode cX11_unfold 115 = .ok (.iload_n 1, 1) := by decide +kernel
theorem dX11_unfold_116 : decode cX11_unfold 116 = .ok (.ireturn, 1) := by decide +kernel
theorem dX11_once_0 : decode cX11_once 0 = .ok (.aload_n 0, 1) := by decide +kernel
theorem dX11_once_1 : decode cX11_once 1 = .ok (.iconst 0, 1) := by decide +kernel
theorem dX11_once_2 : decode cX11_once 2 = .ok (.invokevirtual 304, 3) := by decide +kernel
theorem dX11_once_5 : decode cX11_once 5 = .ok (.istore_n 1, 1) := by decide +kernel
theorem dX11_once_6 : decode cX11_once 6 = .ok (.iload_n 1, 1) := by decide +kernel
theorem dX11_once_7 : decode cX11_once 7 = .ok (.ifCond .ge 5, 3) := by decide +kernel
theorem dX11_once_10 : decode cX11_once 10 = .ok (.iload_n 1, 1) := by decide +kernel
theorem dX11_once_11 : decode cX11_once 11 = .ok (.ireturn, 1) := by decide +kernel
theorem dX11_once_12 : decode cX11_once 12 = .ok (.iconst 0, 1) := by decide +kernel
theorem dX11_once_13 : decode cX11_once 13 = .ok (.istore_n 2, 1) := by decide +kernel
theorem dX11_once_14 : decode cX11_once 14 = .ok (.iload_n 2, 1) := by decide +kernel
theorem dX11_once_15 : decode cX11_once 15 = .ok (.aload_n 0, 1) := by decide +kernel
theorem dX11_once_16 : decode cX11_once 16 = .ok (.getfield 202, 3) := by decide +kernel
theorem dX11_once_19 : decode cX11_once 19 = .ok (.if_icmp .ge 25, 3) := by decide +kernel
theorem dX11_once_22 : decode cX11_once 22 = .ok (.aload_n 0, 1) := by decide +kernel
theorem dX11_once_23 : decode cX11_once 23 = .ok (.getfield 13, 3) := by decide +kernel
theorem dX11_once_26 : decode cX11_once 26 = .ok (.iload_n 2, 1) := by decide +kernel
theorem dX11_once_27 : decode cX11_once 27 = .ok (.iaload, 1) := by decide +kernel
theorem dX11_once_28 : decode cX11_once 28 = .ok (.iconst 4, 1) := by decide +kernel
theorem dX11_once_29 : decode cX11_once 29 = .ok (.if_icmp .ne 9, 3) := by decide +kernel
theorem dX11_once_32 : decode cX11_once 32 = .ok (.aload_n 0, 1) := by decide +kernel
theorem dX11_once_33 : decode cX11_once 33 = .ok (.iconst 3, 1) := by decide +kernel
theorem dX11_once_34 : decode cX11_once 34 = .ok (.invokevirtual 221, 3) := by decide +kernel
theorem dX11_once_37 : decode cX11_once 37 = .ok (.ireturn, 1) := by decide +kernel
theorem dX11_once_38 : decode cX11_once 38 = .ok (.iinc 2 1, 3) := by decide +kernel
theorem dX11_once_41 : decode cX11_once 41 = .ok (.goto (-27), 3) := by decide +kernel
theorem dX11_once_44 : decode cX11_once 44 = .ok (.aload_n 0, 1) := by decide +kernel
theorem dX11_once_45 : decode cX11_once 45 = .ok (.invokevirtual 352, 3) := by decide +kernel
theorem dX11_once_48 : decode cX11_once 48 = .ok (.ifCond .ne 6, 3) := by decide +kernel
theorem dX11_once_51 : decode cX11_once 51 = .ok (.bipush (-9), 2) := by decide +kernel
theorem dX11_once_53 : decode cX11_once 53 = .ok (.ireturn, 1) := by decide +kernel
theorem dX11_once_54 : decode cX11_once 54 = .ok (.aload_n 0, 1) := by decide +kernel
theorem dX11_once_55 : decode cX11_once 55 = .ok (.invokevirtual 356, 3) := by decide +kernel
theorem dX11_once_58 : decode cX11_once 58 = .ok (.aload_n 0, 1) := by decide +kernel
theorem dX11_once_59 : decode cX11_once 59 = .ok (.invokevirtual 359, 3) := by decide +kernel
theorem dX11_once_62 : decode cX11_once 62 = .ok (.aload_n 0, 1) := by decide +kernel
theorem dX11_once_63 : decode cX11_once 63 = .ok (.invokevirtual 362, 3) := by decide +kernel
theorem dX11_once_66 : decode cX11_once 66 = .ok (.istore_n 2, 1) := by decide +kernel
theorem dX11_once_67 : decode cX11_once 67 = .ok (.aload_n 0, 1) := by decide +kernel
theorem dX11_once_68 : decode cX11_once 68 = .ok (.iconst 0, 1) := by decide +kernel
theorem dX11_once_69 : decode cX11_once 69 = .ok (.invokevirtual 286, 3) := by decide +kernel
theorem dX11_once_72 : decode cX11_once 72 = .ok (.aload_n 0, 1) := by decide +kernel
theorem dX11_once_73 : decode cX11_once 73 = .ok (.invokevirtual 317, 3) := by decide +kernel
theorem dX11_once_76 : decode cX11_once 76 = .ok (.iconst 0, 1) := by decide +kernel
theorem dX11_once_77 : decode cX11_once 77 = .ok (.istore_n 3, 1) := by decide +kernel
theorem dX11_once_78 : decode cX11_once 78 = .ok (.iload_n 3, 1) := by decide +kernel
theorem dX11_once_79 : decode cX11_once 79 = .ok (.iload_n 2, 1) := by decide +kernel
theorem dX11_once_80 : decode cX11_once 80 = .ok (.if_icmp .ge 23, 3) := by decide +kernel
