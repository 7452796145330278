theorem dX5_begin_23 : decode cX5_begin 23 = .ok (.getfield 43, 3) := by decide +kernel
theorem dX5_begin_26 : decode cX5_begin 26 = .ok (.if_icmp .ge 41, 3) := by decide +kernel
theorem dX5_begin_29 : decode cX5_begin 29 = .ok (.aload_n 0, 1) := by decide +kernel
theorem dX5_begin_30 : decode cX5_begin 30 = .ok (.getfield 18, 3) := by decide +kernel
theorem dX5_begin_33 : decode cX5_begin 33 = .ok (.iload_n 1, 1) := by decide +kernel
theorem dX5_begin_34 : decode cX5_begin 34 = .ok (.aload_n 0, 1) := by decide +kernel
theorem dX5_begin_35 : decode cX5_begin 35 = .ok (.getfield 27, 3) := by decide +kernel
theorem dX5_begin_38 : decode cX5_begin 38 = .ok (.getfield 46, 3) := by decide +kernel
theorem dX5_begin_41 : decode cX5_begin 41 = .ok (.iload_n 1, 1) := by decide +kernel
theorem dX5_begin_42 : decode cX5_begin 42 = .ok (.aaload, 1) := by decide +kernel
theorem dX5_begin_43 : decode cX5_begin 43 = .ok (.getfield 50, 3) := by decide +kernel
theorem dX5_begin_46 : decode cX5_begin 46 = .ok (.iastore, 1) := by decide +kernel
theorem dX5_begin_47 : decode cX5_begin 47 = .ok (.aload_n 0, 1) := by decide +kernel
theorem dX5_begin_48 : decode cX5_begin 48 = .ok (.getfield 21, 3) := by decide +kernel
theorem dX5_begin_51 : decode cX5_begin 51 = .ok (.iload_n 1, 1) := by decide +kernel
theorem dX5_begin_52 : decode cX5_begin 52 = .ok (.iconst 0, 1) := by decide +kernel
theorem dX5_begin_53 : decode cX5_begin 53 = .ok (.iastore, 1) := by decide +kernel
theorem dX5_begin_54 : decode cX5_begin 54 = .ok (.aload_n 0, 1) := by decide +kernel
theorem dX5_begin_55 : decode cX5_begin 55 = .ok (.getfield 24, 3) := by decide +kernel
theorem dX5_begin_58 : decode cX5_begin 58 = .ok (.iload_n 1, 1) := by decide +kernel
theorem dX5_begin_59 : decode cX5_begin 59 = .ok (.iconst 0, 1) := by decide +kernel
theorem dX5_begin_60 : decode cX5_begin 60 = .ok (.iastore, 1) := by decide +kernel
theorem dX5_begin_61 : decode cX5_begin 61 = .ok (.iinc 1 1, 3) := by decide +kernel
theorem dX5_begin_64 : decode cX5_begin 64 = .ok (.goto (-46), 3) := by decide +kernel
theorem dX5_begin_67 : decode cX5_begin 67 = .ok (.aload_n 0, 1) := by decide +kernel
theorem dX5_begin_68 : decode cX5_begin 68 = .ok (.iconst 0, 1) := by decide +kernel
theorem dX5_begin_69 : decode cX5_begin 69 = .ok (.putfield 53, 3) := by decide +kernel
theorem dX5_begin_72 : decode cX5_begin 72 = .ok (.iconst 0, 1) := by decide +kernel
theorem dX5_begin_73 : decode cX5_begin 73 = .ok (.istore_n 1, 1) := by decide +kernel
theorem dX5_begin_74 : decode cX5_begin 74 = .ok (.iload_n 1, 1) := by decide +kernel
theorem dX5_begin_75 : decode cX5_begin 75 = .ok (.aload_n 0, 1) := by decide +kernel
theorem dX5_begin_76 : decode cX5_begin 76 = .ok (.getfield 27, 3) := by decide +kernel
theorem dX5_begin_79 : decode cX5_begin 79 = .ok (.getfield 56, 3) := by decide +kernel
theorem dX5_begin_82 : decode cX5_begin 82 = .ok (.if_icmp .ge 54, 3) := by decide +kernel
theorem dX5_begin_85 : decode cX5_begin 85 = .ok (.aload_n 0, 1) := by decide +kernel
theorem dX5_begin_86 : decode cX5_begin 86 = .ok (.getfield 9, 3) := by decide +kernel
theorem dX5_begin_89 : decode cX5_begin 89 = .ok (.iload_n 1, 1) := by decide +kernel
theorem dX5_begin_90 : decode cX5_begin 90 = .ok (.aload_n 0, 1) := by decide +kernel
theorem dX5_begin_91 : decode cX5_begin 91 = .ok (.getfield 27, 3) := by decide +kernel
theorem dX5_begin_94 : decode cX5_begin 94 = .ok (.getfield 59, 3) := by decide +kernel
theorem dX5_begin_97 : decode cX5_begin 97 = .ok (.iload_n 1, 1) := by decide +kernel
theorem dX5_begin_98 : decode cX5_begin 98 = .ok (.aaload, 1) := by decide +kernel
theorem dX5_begin_99 : decode cX5_begin 99 = .ok (.getfield 63, 3) := by decide +kernel
theorem dX5_begin_102 : decode cX5_begin 102 = .ok (.iastore, 1) := by decide +kernel
theorem dX5_begin_103 : decode cX5_begin 103 = .ok (.aload_n 0, 1) := by decide +kernel
theorem dX5_begin_104 : decode cX5_begin 104 = .ok (.getfield 15, 3) := by decide +kernel
theorem dX5_begin_107 : decode cX5_begin 107 = .ok (.iload_n 1, 1) := by decide +kernel
theorem dX5_begin_108 : decode cX5_begin 108 = .ok (.aload_n 0, 1) := by decide +kernel
theorem dX5_begin_109 : decode cX5_begin 109 = .ok (.getfield 9, 3) := by decide +kernel
theorem dX5_begin_112 : decode cX5_begin 112 = .ok (.iload_n 1, 1) := by decide +kernel
theorem dX5_begin_113 : decode cX5_begin 113 = .ok (.iaload, 1) := by decide +kernel
theorem dX5_begin_114 : decode cX5_begin 114 = .ok (.iastore, 1) := by decide +kernel
theorem dX5_begin_115 : decode cX5_begin 115 = .ok (.aload_n 0, 1) := by decide +kernel
theorem dX5_begin_116 : decode cX5_begin 116 = .ok (.dup, 1) := by decide +kernel
theorem dX5_begin_117 : decode cX5_begin 117 = .ok (.getfield 53, 3) := by decide +kernel
theorem dX5_begin_120 : decode cX5_begin 120 = .ok (.aload_n 0, 1) := by decide +kernel
theorem dX5_begin_121 : decode cX5_begin 121 = .ok (.getfield 9, 3) := by decide +kernel
theorem dX5_begin_124 : decode cX5_begin 124 = .ok (.iload_n 1, 1) := by decide +kernel
theorem dX5_begin_125 : decode cX5_begin 125 = .ok (.iaload, 1) := by decide +kernel
theorem dX5_begin_126 : decode cX5_begin 126 = .ok (.iadd, 1) := by decide +kernel
theorem dX5_begin_127 : decode cX5_begin 127 = .ok (.putfield 53, 3) := by decide +kernel
theorem dX5_begin_130 : decode cX5_begin 130 = .ok (.iinc 1 1, 3) := by decide +kernel
theorem dX5_begin_133 : decode cX5_begin 133 = .ok (.goto (-59), 3) := by decide +kernel
theorem dX5_begin_136 : decode cX5_begin 136 = .ok (.return_, 1) := by decide +kernel
theorem dX5_canFire_0 : decode cX5_canFire 0 = .ok (.aload_n 0, 1) := by decide +kernel
theorem dX5_canFire_1 : decode cX5_canFire 1 = .ok (.getfield 18, 3) := by decide +kernel
theorem dX5_canFire_4 : decode cX5_canFire 4 = .ok (.aload_n 1, 1) := by decide +kernel
theorem dX5_canFire_5 : decode cX5_canFire 5 = .ok (.getfield 68, 3) := by decide +kernel
theorem dX5_canFire_8 : decode cX5_canFire 8 = .ok (.iaload, 1) := by decide +kernel
theorem dX5_canFire_9 : decode cX5_canFire 9 = .ok (.ifCond .gt 5, 3) := by decide +kernel
theorem dX5_canFire_12 : decode cX5_canFire 12 = .ok (.iconst 0, 1) := by decide +kernel
theorem dX5_canFire_13 : decode cX5_canFire 13 = .ok (.ireturn, 1) := by decide +kernel
theorem dX5_canFire_14 : decode cX5_canFire 14 = .ok (.aload_n 0, 1) := by decide +kernel
theorem dX5_canFire_15 : decode cX5_canFire 15 = .ok (.getfield 21, 3) := by decide +kernel
theorem dX5_canFire_18 : decode cX5_canFire 18 = .ok (.aload_n 1, 1) := by decide +kernel
theorem dX5_canFire_19 : decode cX5_canFire 19 = .ok (.getfield 68, 3) := by decide +kernel
theorem dX5_canFire_22 : decode cX5_canFire 22 = .ok (.iaload, 1) := by decide +kernel
theorem dX5_canFire_23 : decode cX5_canFire 23 = .ok (.istore_n 2, 1) := by decide +kernel
theorem dX5_canFire_24 : decode cX5_canFire 24 = .ok (.aload_n 1, 1) := by decide +kernel
theorem dX5_canFire_25 : decode cX5_canFire 25 = .ok (.getfield 71, 3) := by decide +kernel
theorem dX5_canFire_28 : decode cX5_canFire 28 = .ok (.astore_n 3, 1) := by decide +kernel
theorem dX5_canFire_29 : decode cX5_canFire 29 = .ok (.aload_n 3, 1) := by decide +kernel
theorem dX5_canFire_30 : decode cX5_canFire 30 = .ok (.ifnull 30, 3) := by decide +kernel
theorem dX5_canFire_33 : decode cX5_canFire 33 = .ok (.aload_n 0, 1) := by decide +kernel
theorem dX5_canFire_34 : decode cX5_canFire 34 = .ok (.getfield 9, 3) := by decide +kernel
theorem dX5_canFire_37 : decode cX5_canFire 37 = .ok (.aload_n 3, 1) := by decide +kernel
theorem dX5_canFire_38 : decode cX5_canFire 38 = .ok (.getfield 75, 3) := by decide +kernel
theorem dX5_canFire_41 : decode cX5_canFire 41 = .ok (.iaload, 1) := by decide +kernel
theorem dX5_canFire_42 : decode cX5_canFire 42 = .ok (.aload_n 3, 1) := by decide +kernel
theorem dX5_canFire_43 : decode cX5_canFire 43 = .ok (.iload_n 2, 1) := by decide +kernel
theorem dX5_canFire_44 : decode cX5_canFire 44 = .ok (.invokevirtual 76, 3) := by decide +kernel
theorem dX5_canFire_47 : decode cX5_canFire 47 = .ok (.if_icmp .ge 5, 3) := by decide +kernel
theorem dX5_canFire_50 : decode cX5_canFire 50 = .ok (.iconst 0, 1) := by decide +kernel
theorem dX5_canFire_51 : decode cX5_canFire 51 = .ok (.ireturn, 1) := by decide +kernel
theorem dX5_canFire_52 : decode cX5_canFire 52 = .ok (.aload_n 3, 1) := by decide +kernel
theorem dX5_canFire_53 : decode cX5_canFire 53 = .ok (.getfield 80, 3) := by decide +kernel
theorem dX5_canFire_56 : decode cX5_canFire 56 = .ok (.astore_n 3, 1) := by decide +kernel
theorem dX5_canFire_57 : decode cX5_canFire 57 = .ok (.goto (-28), 3) := by decide +kernel
theorem dX5_canFire_60 : decode cX5_canFire 60 = .ok (.iconst 1, 1) := by decide +kernel
theorem dX5_canFire_61 : decode cX5_canFire 61 = .ok (.ireturn, 1) := by decide +kernel
theorem dX5_step_0 : decode cX5_step 0 = .ok (.aload_n 0, 1) := by decide +kernel
theorem dX5_step_1 : decode cX5_step 1 = .ok (.getfield 21, 3) := by decide +kernel
theorem dX5_step_4 : decode cX5_step 4 = .ok (.aload_n 1, 1) := by decide +kernel
theorem dX5_step_5 : decode cX5_step 5 = .ok (.getfield 68, 3) := by decide +kernel
theorem dX5_step_8 : decode cX5_step 8 = .ok (.iaload, 1) := by decide +kernel
theorem dX5_step_9 : decode cX5_step 9 = .ok (.istore_n 2, 1) := by decide +kernel
theorem dX5_step_10 : decode cX5_step 10 = .ok (.aload_n 1, 1) := by decide +kernel
theorem dX5_step_11 : decode cX5_step 11 = .ok (.getfield 71, 3) := by decide +kernel
theorem dX5_step_14 : decode cX5_step 14 = .ok (.astore_n 3, 1) := by decide +kernel
theorem dX5_step_15 : decode cX5_step 15 = .ok (.aload_n 3, 1) := by decide +kernel
theorem dX5_step_16 : decode cX5_step 16 = .ok (.ifnull 28, 3) := by decide +kernel
theorem dX5_step_19 : decode cX5_step 19 = .ok (.aload_n 0, 1) := by decide +kernel
theorem dX5_step_20 : decode cX5_step 20 = .ok (.getfield 9, 3) := by decide +kernel
theorem dX5_step_23 : decode cX5_step 23 = .ok (.aload_n 3, 1) := by decide +kernel
theorem dX5_step_24 : decode cX5_step 24 = .ok (.getfield 75, 3) := by decide +kernel
theorem dX5_step_27 : decode cX5_step 27 = .ok (.dup2, 1) := by decide +kernel
theorem dX5_step_28 : decode cX5_step 28 = .ok (.iaload, 1) := by decide +kernel
theorem dX5_step_29 : decode cX5_step 29 = .ok (.aload_n 3, 1) := by decide +kernel
theorem dX5_step_30 : decode cX5_step 30 = .ok (.iload_n 2, 1) := by decide +kernel
theorem dX5_step_31 : decode cX5_step 31 = .ok (.invokevirtual 76, 3) := by decide +kernel
theorem dX5_step_34 : decode cX5_step 34 = .ok (.isub, 1) := by decide +kernel
theorem dX5_step_35 : decode cX5_step 35 = .ok (.iastore, 1) := by decide +kernel
theorem dX5_step_36 : decode cX5_step 36 = .ok (.aload_n 3, 1) := by decide +kernel
theorem dX5_step_37 : decode cX5_step 37 = .ok (.getfield 80, 3) := by decide +kernel
theorem dX5_step_40 : decode cX5_step 40 = .ok (.astore_n 3, 1) := by decide +kernel
theorem dX5_step_41 : decode cX5_step 41 = .ok (.goto (-26), 3) := by decide +kernel
theorem dX5_step_44 : decode cX5_step 44 = .ok (.aload_n 1, 1) := by decide +kernel
theorem dX5_step_45 : decode cX5_step 45 = .ok (.getfield 83, 3) := by decide +kernel
theorem dX5_step_48 : decode cX5_step 48 = .ok (.astore_n 3, 1) := by decide +kernel
theorem dX5_step_49 : decode cX5_step 49 = .ok (.aload_n 3, 1) := by decide +kernel
theorem dX5_step_50 : decode cX5_step 50 = .ok (.ifnull 85, 3) := by decide +kernel
theorem dX5_step_53 : decode cX5_step 53 = .ok (.aload_n 0, 1) := by decide +kernel
theorem dX5_step_54 : decode cX5_step 54 = .ok (.getfield 9, 3) := by decide +kernel
theorem dX5_step_57 : decode cX5_step 57 = .ok (.aload_n 3, 1) := by decide +kernel
theorem dX5_step_58 : decode cX5_step 58 = .ok (.getfield 75, 3) := by decide +kernel
theorem dX5_step_61 : decode cX5_step 61 = .ok (.iaload, 1) := by decide +kernel
theorem dX5_step_62 : decode cX5_step 62 = .ok (.aload_n 3, 1) := by decide +kernel
theorem dX5_step_63 : decode cX5_step 63 = .ok (.iload_n 2, 1) := by decide +kernel
theorem dX5_step_64 : decode cX5_step 64 = .ok (.invokevirtual 86, 3) := by decide +kernel
theorem dX5_step_67 : decode cX5_step 67 = .ok (.iadd, 1) := by decide +kernel
theorem dX5_step_68 : decode cX5_step 68 = .ok (.istore 4, 2) := by decide +kernel
theorem dX5_step_70 : decode cX5_step 70 = .ok (.aload_n 0, 1) := by decide +kernel
theorem dX5_step_71 : decode cX5_step 71 = .ok (.getfield 9, 3) := by decide +kernel
theorem dX5_step_74 : decode cX5_step 74 = .ok (.aload_n 3, 1) := by decide +kernel
theorem dX5_step_75 : decode cX5_step 75 = .ok (.getfield 75, 3) := by decide +kernel
theorem dX5_step_78 : decode cX5_step 78 = .ok (.iload 4, 2) := by decide +kernel
theorem dX5_step_80 : decode cX5_step 80 = .ok (.iastore, 1) := by decide +kernel
theorem dX5_step_81 : decode cX5_step 81 = .ok (.iload 4, 2) := by decide +kernel
theorem dX5_step_83 : decode cX5_step 83 = .ok (.aload_n 0, 1) := by decide +kernel
theorem dX5_step_84 : decode cX5_step 84 = .ok (.getfield 15, 3) := by decide +kernel
theorem dX5_step_87 : decode cX5_step 87 = .ok (.aload_n 3, 1) := by decide +kernel
theorem dX5_step_88 : decode cX5_step 88 = .ok (.getfield 75, 3) := by decide +kernel
theorem dX5_step_91 : decode cX5_step 91 = .ok (.iaload, 1) := by decide +kernel
theorem dX5_step_92 : decode cX5_step 92 = .ok (.if_icmp .le 35, 3) := by decide +kernel
theorem dX5_step_95 : decode cX5_step 95 = .ok (.aload_n 0, 1) := by decide +kernel
theorem dX5_step_96 : decode cX5_step 96 = .ok (.dup, 1) := by decide +kernel
theorem dX5_step_97 : decode cX5_step 97 = .ok (.getfield 53, 3) := by decide +kernel
theorem dX5_step_100 : decode cX5_step 100 = .ok (.iload 4, 2) := by decide +kernel
theorem dX5_step_102 : decode cX5_step 102 = .ok (.aload_n 0, 1) := by decide +kernel
theorem dX5_step_103 : decode cX5_step 103 = .ok (.getfield 15, 3) := by decide +kernel
theorem dX5_step_106 : decode cX5_step 106 = .ok (.aload_n 3, 1) := by decide +kernel
theorem dX5_step_107 : decode cX5_step 107 = .ok (.getfield 75, 3) := by decide +kernel
theorem dX5_step_110 : decode cX5_step 110 = .ok (.iaload, 1) := by decide +kernel
theorem dX5_step_111 : decode cX5_step 111 = .ok (.isub, 1) := by decide +kernel
theorem dX5_step_112 : decode cX5_step 112 = .ok (.iadd, 1) := by decide +kernel
theorem dX5_step_113 : decode cX5_step 113 = .ok (.putfield 53, 3) := by decide +kernel
theorem dX5_step_116 : decode cX5_step 116 = .ok (.aload_n 0, 1) := by decide +kernel
theorem dX5_step_117 : decode cX5_step 117 = .ok (.getfield 15, 3) := by decide +kernel
theorem dX5_step_120 : decode cX5_step 120 = .ok (.aload_n 3, 1) := by decide +kernel
theorem dX5_step_121 : decode cX5_step 121 = .ok (.getfield 75, 3) := by decide +kernel
theorem dX5_step_124 : decode cX5_step 124 = .ok (.iload 4, 2) := by decide +kernel
theorem dX5_step_126 : decode cX5_step 126 = .ok (.iastore, 1) := by decide +kernel
theorem dX5_step_127 : decode cX5_step 127 = .ok (.aload_n 3, 1) := by decide +kernel
theorem dX5_step_128 : decode cX5_step 128 = .ok (.getfield 89, 3) := by decide +kernel
theorem dX5_step_131 : decode cX5_step 131 = .ok (.astore_n 3, 1) := by decide +kernel
theorem dX5_step_132 : decode cX5_step 132 = .ok (.goto (-83), 3) := by decide +kernel
theorem dX5_step_135 : decode cX5_step 135 = .ok (.aload_n 0, 1) := by decide +kernel
theorem dX5_step_136 : decode cX5_step 136 = .ok (.getfield 21, 3) := by decide +kernel
theorem dX5_step_139 : decode cX5_step 139 = .ok (.aload_n 1, 1) := by decide +kernel
theorem dX5_step_140 : decode cX5_step 140 = .ok (.getfield 68, 3) := by decide +kernel
theorem dX5_step_143 : decode cX5_step 143 = .ok (.aload_n 1, 1) := by decide +kernel
theorem dX5_step_144 : decode cX5_step 144 = .ok (.iload_n 2, 1) := by decide +kernel
theorem dX5_step_145 : decode cX5_step 145 = .ok (.invokevirtual 92, 3) := by decide +kernel
theorem dX5_step_148 : decode cX5_step 148 = .ok (.iastore, 1) := by decide +kernel
theorem dX5_step_149 : decode cX5_step 149 = .ok (.aload_n 0, 1) := by decide +kernel
theorem dX5_step_150 : decode cX5_step 150 = .ok (.getfield 18, 3) := by decide +kernel
theorem dX5_step_153 : decode cX5_step 153 = .ok (.aload_n 1, 1) := by decide +kernel
theorem dX5_step_154 : decode cX5_step 154 = .ok (.getfield 68, 3) := by decide +kernel
theorem dX5_step_157 : decode cX5_step 157 = .ok (.dup2, 1) := by decide +kernel
theorem dX5_step_158 : decode cX5_step 158 = .ok (.iaload, 1) := by decide +kernel
theorem dX5_step_159 : decode cX5_step 159 = .ok (.iconst 1, 1) := by decide +kernel
theorem dX5_step_160 : decode cX5_step 160 = .ok (.isub, 1) := by decide +kernel
theorem dX5_step_161 : decode cX5_step 161 = .ok (.iastore, 1) := by decide +kernel
theorem dX5_step_162 : decode cX5_step 162 = .ok (.aload_n 0, 1) := by decide +kernel
theorem dX5_step_163 : decode cX5_step 163 = .ok (.dup, 1) := by decide +kernel
theorem dX5_step_164 : decode cX5_step 164 = .ok (.getfield 40, 3) := by decide +kernel
theorem dX5_step_167 : decode cX5_step 167 = .ok (.iconst 1, 1) := by decide +kernel
theorem dX5_step_168 : decode cX5_step 168 = .ok (.isub, 1) := by decide +kernel
theorem dX5_step_169 : decode cX5_step 169 = .ok (.putfield 40, 3) := by decide +kernel
theorem dX5_step_172 : decode cX5_step 172 = .ok (.aload_n 0, 1) := by decide +kernel
theorem dX5_step_173 : decode cX5_step 173 = .ok (.dup, 1) := by decide +kernel
theorem dX5_step_174 : decode cX5_step 174 = .ok (.getfield 31, 3) := by decide +kernel
theorem dX5_step_177 : decode cX5_step 177 = .ok (.iconst 1, 1) := by decide +kernel
theorem dX5_step_178 : decode cX5_step 178 = .ok (.iadd, 1) := by decide +kernel
theorem dX5_step_179 : decode cX5_step 179 = .ok (.putfield 31, 3) := by decide +kernel
theorem dX5_step_182 : decode cX5_step 182 = .ok (.aload_n 0, 1) := by decide +kernel
theorem dX5_step_183 : decode cX5_step 183 = .ok (.getfield 24, 3) := by decide +kernel
theorem dX5_step_186 : decode cX5_step 186 = .ok (.aload_n 1, 1) := by decide +kernel
theorem dX5_step_187 : decode cX5_step 187 = .ok (.getfield 68, 3) := by decide +kernel
theorem dX5_step_190 : decode cX5_step 190 = .ok (.aload_n 0, 1) := by decide +kernel
theorem dX5_step_191 : decode cX5_step 191 = .ok (.getfield 31, 3) := by decide +kernel
theorem dX5_step_194 : decode cX5_step 194 = .ok (.iastore, 1) := by decide +kernel
theorem dX5_step_195 : decode cX5_step 195 = .ok (.return_, 1) := by decide +kernel
theorem dX5_stepBack_0 : decode cX5_stepBack 0 = .ok (.aload_n 1, 1) := by decide +kernel
theorem dX5_stepBack_1 : decode cX5_stepBack 1 = .ok (.aload_n 0, 1) := by decide +kernel
theorem dX5_stepBack_2 : decode cX5_stepBack 2 = .ok (.getfield 21, 3) := by decide +kernel
theorem dX5_stepBack_5 : decode cX5_stepBack 5 = .ok (.aload_n 1, 1) := by decide +kernel
theorem dX5_stepBack_6 : decode cX5_stepBack 6 = .ok (.getfield 68, 3) := by decide +kernel
theorem dX5_stepBack_9 : decode cX5_stepBack 9 = .ok (.iaload, 1) := by decide +kernel
theorem dX5_stepBack_10 : decode cX5_stepBack 10 = .ok (.invokevirtual 95, 3) := by decide +kernel
theorem dX5_stepBack_13 : decode cX5_stepBack 13 = .ok (.istore_n 2, 1) := by decide +kernel
theorem dX5_stepBack_14 : decode cX5_stepBack 14 = .ok (.aload_n 1, 1) := by decide +kernel
theorem dX5_stepBack_15 : decode cX5_stepBack 15 = .ok (.getfield 83, 3) := by decide +kernel
theorem dX5_stepBack_18 : decode cX5_stepBack 18 = .ok (.astore_n 3, 1) := by decide +kernel
theorem dX5_stepBack_19 : decode cX5_stepBack 19 = .ok (.aload_n 3, 1) := by decide +kernel
theorem dX5_stepBack_20 : decode cX5_stepBack 20 = .ok (.ifnull 28, 3) := by decide +kernel
theorem dX5_stepBack_23 : decode cX5_stepBack 23 = .ok (.aload_n 0, 1) := by decide +kernel
theorem dX5_stepBack_24 : decode cX5_stepBack 24 = .ok (.getfield 9, 3) := by decide +kernel
theorem dX5_stepBack_27 : decode cX5_stepBack 27 = .ok (.aload_n 3, 1) := by decide +kernel
theorem dX5_stepBack_28 : decode cX5_stepBack 28 = .ok (.getfield 75, 3) := by decide +kernel
theorem dX5_stepBack_31 : decode cX5_stepBack 31 = .ok (.dup2, 1) := by decide +kernel
theorem dX5_stepBack_32 : decode cX5_stepBack 32 = .ok (.iaload, 1) := by decide +kernel
theorem dX5_stepBack_33 : decode cX5_stepBack 33 = .ok (.aload_n 3, 1) := by decide +kernel
theorem dX5_stepBack_34 : decode cX5_stepBack 34 = .ok (.iload_n 2, 1) := by decide +kernel
theorem dX5_stepBack_35 : decode cX5_stepBack 35 = .ok (.invokevirtual 86, 3) := by decide +kernel
theorem dX5_stepBack_38 : decode cX5_stepBack 38 = .ok (.isub, 1) := by decide +kernel
theorem dX5_stepBack_39 : decode cX5_stepBack 39 = .ok (.iastore, 1) := by decide +kernel
theorem dX5_stepBack_40 : decode cX5_stepBack 40 = .ok (.aload_n 3, 1) := by decide +kernel
theorem dX5_stepBack_41 : decode cX5_stepBack 41 = .ok (.getfield 89, 3) := by decide +kernel
theorem dX5_stepBack_44 : decode cX5_stepBack 44 = .ok (.astore_n 3, 1) := by decide +kernel
theorem dX5_stepBack_45 : decode cX5_stepBack 45 = .ok (.goto (-26), 3) := by decide +kernel
theorem dX5_stepBack_48 : decode cX5_stepBack 48 = .ok (.aload_n 1, 1) := by decide +kernel
theorem dX5_stepBack_49 : decode cX5_stepBack 49 = .ok (.getfield 71, 3) := by decide +kernel
theorem dX5_stepBack_52 : decode cX5_stepBack 52 = .ok (.astore_n 3, 1) := by decide +kernel
theorem dX5_stepBack_53 : decode cX5_stepBack 53 = .ok (.aload_n 3, 1) := by decide +kernel
theorem dX5_stepBack_54 : decode cX5_stepBack 54 = .ok (.ifnull 28, 3) := by decide +kernel
theorem dX5_stepBack_57 : decode cX5_stepBack 57 = .ok (.aload_n 0, 1) := by decide +kernel
theorem dX5_stepBack_58 : decode cX5_stepBack 58 = .ok (.getfield 9, 3) := by decide +kernel
theorem dX5_stepBack_61 : decode cX5_stepBack 61 = .ok (.aload_n 3, 1) := by decide +kernel
theorem dX5_stepBack_62 : decode cX5_stepBack 62 = .ok (.getfield 75, 3) := by decide +kernel
theorem dX5_stepBack_65 : decode cX5_stepBack 65 = .ok (.dup2, 1) := by decide +kernel
theorem dX5_stepBack_66 : decode cX5_stepBack 66 = .ok (.iaload, 1) := by decide +kernel
theorem dX5_stepBack_67 : decode cX5_stepBack 67 = .ok (.aload_n 3, 1) := by decide +kernel
theorem dX5_stepBack_68 : decode cX5_stepBack 68 = .ok (.iload_n 2, 1) := by decide +kernel
theorem dX5_stepBack_69 : decode cX5_stepBack 69 = .ok (.invokevirtual 76, 3) := by decide +kernel
theorem dX5_stepBack_72 : decode cX5_stepBack 72 = .ok (.iadd, 1) := by decide +kernel
theorem dX5_stepBack_73 : decode cX5_stepBack 73 = .ok (.iastore, 1) := by decide +kernel
theorem dX5_stepBack_74 : decode cX5_stepBack 74 = .ok (.aload_n 3, 1) := by decide +kernel
theorem dX5_stepBack_75 : decode cX5_stepBack 75 = .ok (.getfield 80, 3) := by decide +kernel
theorem dX5_stepBack_78 : decode cX5_stepBack 78 = .ok (.astore_n 3, 1) := by decide +kernel
theorem dX5_stepBack_79 : decode cX5_stepBack 79 = .ok (.goto (-26), 3) := by decide +kernel
theorem dX5_stepBack_82 : decode cX5_stepBack 82 = .ok (.aload_n 0, 1) := by decide +kernel
theorem dX5_stepBack_83 : decode cX5_stepBack 83 = .ok (.getfield 21, 3) := by decide +kernel
theorem dX5_stepBack_86 : decode cX5_stepBack 86 = .ok (.aload_n 1, 1) := by decide +kernel
theorem dX5_stepBack_87 : decode cX5_stepBack 87 = .ok (.getfield 68, 3) := by decide +kernel
theorem dX5_stepBack_90 : decode cX5_stepBack 90 = .ok (.iload_n 2, 1) := by decide +kernel
theorem dX5_stepBack_91 : decode cX5_stepBack 91 = .ok (.iastore, 1) := by decide +kernel
theorem dX5_stepBack_92 : decode cX5_stepBack 92 = .ok (.aload_n 0, 1) := by decide +kernel
theorem dX5_stepBack_93 : decode cX5_stepBack 93 = .ok (.getfield 18, 3) := by decide +kernel
theorem dX5_stepBack_96 : decode cX5_stepBack 96 = .ok (.aload_n 1, 1) := by decide +kernel
theorem dX5_stepBack_97 : decode cX5_stepBack 97 = .ok (.getfield 68, 3) := by decide +kernel
theorem dX5_stepBack_100 : decode cX5_stepBack 100 = .ok (.dup2, 1) := by decide +kernel
theorem dX5_stepBack_101 : decode cX5_stepBack 101 = .ok (.iaload, 1) := by decide +kernel
theorem dX5_stepBack_102 : decode cX5_stepBack 102 = .ok (.iconst 1, 1) := by decide +kernel
theorem dX5_stepBack_103 : decode cX5_stepBack 103 = .ok (.iadd, 1) := by decide +kernel
theorem dX5_stepBack_104 : decode cX5_stepBack 104 = .ok (.iastore, 1) := by decide +kernel
theorem dX5_stepBack_105 : decode cX5_stepBack 105 = .ok (.aload_n 0, 1) := by decide +kernel
theorem dX5_stepBack_106 : decode cX5_stepBack 106 = .ok (.dup, 1) := by decide +kernel
theorem dX5_stepBack_107 : decode cX5_stepBack 107 = .ok (.getfield 40, 3) := by decide +kernel
theorem dX5_stepBack_110 : decode cX5_stepBack 110 = .ok (.iconst 1, 1) := by decide +kernel
theorem dX5_stepBack_111 : decode cX5_stepBack 111 = .ok (.iadd, 1) := by decide +kernel
theorem dX5_stepBack_112 : decode cX5_stepBack 112 = .ok (.putfield 40, 3) := by decide +kernel
theorem dX5_stepBack_115 : decode cX5_stepBack 115 = .ok (.aload_n 0, 1) := by decide +kernel
theorem dX5_stepBack_116 : decode cX5_stepBack 116 = .ok (.dup, 1) := by decide +kernel
theorem dX5_stepBack_117 : decode cX5_stepBack 117 = .ok (.getfield 31, 3) := by decide +kernel
theorem dX5_stepBack_120 : decode cX5_stepBack 120 = .ok (.iconst 1, 1) := by decide +kernel
theorem dX5_stepBack_121 : decode cX5_stepBack 121 = .ok (.isub, 1) := by decide +kernel
theorem dX5_stepBack_122 : decode cX5_stepBack 122 = .ok (.putfield 31, 3) := by decide +kernel
theorem dX5_stepBack_125 : decode cX5_stepBack 125 = .ok (.return_, 1) := by decide +kernel
theorem dX5_exhaust_0 : decode cX5_exhaust 0 = .ok (.iconst 1, 1) := by decide +kernel
theorem dX5_exhaust_1 : decode cX5_exhaust 1 = .ok (.istore_n 1, 1) := by decide +kernel
theorem dX5_exhaust_2 : decode cX5_exhaust 2 = .ok (.iconst 0, 1) := by decide +kernel
theorem dX5_exhaust_3 : decode cX5_exhaust 3 = .ok (.istore_n 2, 1) := by decide +kernel
theorem dX5_exhaust_4 : decode cX5_exhaust 4 = .ok (.iload_n 2, 1) := by decide +kernel
theorem dX5_exhaust_5 : decode cX5_exhaust 5 = .ok (.sipush 2000, 3) := by decide +kernel
theorem dX5_exhaust_8 : decode cX5_exhaust 8 = .ok (.if_icmp .gt 81, 3) := by decide +kernel
theorem dX5_exhaust_11 : decode cX5_exhaust 11 = .ok (.iload_n 1, 1) := by decide +kernel
theorem dX5_exhaust_12 : decode cX5_exhaust 12 = .ok (.ifCond .eq 77, 3) := by decide +kernel
theorem dX5_exhaust_15 : decode cX5_exhaust 15 = .ok (.iconst 0, 1) := by decide +kernel
theorem dX5_exhaust_16 : decode cX5_exhaust 16 = .ok (.istore_n 1, 1) := by decide +kernel
theorem dX5_exhaust_17 : decode cX5_exhaust 17 = .ok (.iconst 0, 1) := by decide +kernel
theorem dX5_exhaust_18 : decode cX5_exhaust 18 = .ok (.istore_n 3, 1) := by decide +kernel
theorem dX5_exhaust_19 : decode cX5_exhaust 19 = .ok (.iload_n 3, 1) := by decide +kernel
theorem dX5_exhaust_20 : decode cX5_exhaust 20 = .ok (.aload_n 0, 1) := by decide +kernel
theorem dX5_exhaust_21 : decode cX5_exhaust 21 = .ok (.getfield 27, 3) := by decide +kernel
theorem dX5_exhaust_24 : decode cX5_exhaust 24 = .ok (.getfield 43, 3) := by decide +kernel
theorem dX5_exhaust_27 : decode cX5_exhaust 27 = .ok (.if_icmp .ge 56, 3) := by decide +kernel
theorem dX5_exhaust_30 : decode cX5_exhaust 30 = .ok (.aload_n 0, 1) := by decide +kernel
theorem dX5_exhaust_31 : decode cX5_exhaust 31 = .ok (.getfield 27, 3) := by decide +kernel
theorem dX5_exhaust_34 : decode cX5_exhaust 34 = .ok (.getfield 46, 3) := by decide +kernel
theorem dX5_exhaust_37 : decode cX5_exhaust 37 = .ok (.iload_n 3, 1) := by decide +kernel
theorem dX5_exhaust_38 : decode cX5_exhaust 38 = .ok (.aaload, 1) := by decide +kernel
theorem dX5_exhaust_39 : decode cX5_exhaust 39 = .ok (.astore 4, 2) := by decide +kernel
theorem dX5_exhaust_41 : decode cX5_exhaust 41 = .ok (.aload_n 0, 1) := by decide +kernel
theorem dX5_exhaust_42 : decode cX5_exhaust 42 = .ok (.getfield 18, 3) := by decide +kernel
theorem dX5_exhaust_45 : decode cX5_exhaust 45 = .ok (.iload_n 3, 1) := by decide +kernel
theorem dX5_exhaust_46 : decode cX5_exhaust 46 = .ok (.iaload, 1) := by decide +kernel
theorem dX5_exhaust_47 : decode cX5_exhaust 47 = .ok (.istore 5, 2) := by decide +kernel
theorem dX5_exhaust_49 : decode cX5_exhaust 49 = .ok (.iload 5, 2) := by decide +kernel
theorem dX5_exhaust_51 : decode cX5_exhaust 51 = .ok (.ifCond .le 26, 3) := by decide +kernel
theorem dX5_exhaust_54 : decode cX5_exhaust 54 = .ok (.aload_n 0, 1) := by decide +kernel
theorem dX5_exhaust_55 : decode cX5_exhaust 55 = .ok (.aload 4, 2) := by decide +kernel
theorem dX5_exhaust_57 : decode cX5_exhaust 57 = .ok (.invokevirtual 98, 3) := by decide +kernel
theorem dX5_exhaust_60 : decode cX5_exhaust 60 = .ok (.ifCond .eq 17, 3) := by decide +kernel
theorem dX5_exhaust_63 : decode cX5_exhaust 63 = .ok (.aload_n 0, 1) := by decide +kernel
theorem dX5_exhaust_64 : decode cX5_exhaust 64 = .ok (.aload 4, 2) := by decide +kernel
theorem dX5_exhaust_66 : decode cX5_exhaust 66 = .ok (.invokevirtual 102, 3) := by decide +kernel
theorem dX5_exhaust_69 : decode cX5_exhaust 69 = .ok (.iconst 1, 1) := by decide +kernel
theorem dX5_exhaust_70 : decode cX5_exhaust 70 = .ok (.istore_n 1, 1) := by decide +kernel
theorem dX5_exhaust_71 : decode cX5_exhaust 71 = .ok (.iinc 5 (-1), 3) := by decide +kernel
theorem dX5_exhaust_74 : decode cX5_exhaust 74 = .ok (.goto (-25), 3) := by decide +kernel
theorem dX5_exhaust_77 : decode cX5_exhaust 77 = .ok (.iinc 3 1, 3) := by decide +kernel
theorem dX5_exhaust_80 : decode cX5_exhaust 80 = .ok (.goto (-61), 3) := by decide +kernel
theorem dX5_exhaust_83 : decode cX5_exhaust 83 = .ok (.iinc 2 1, 3) := by decide +kernel
theorem dX5_exhaust_86 : decode cX5_exhaust 86 = .ok (.goto (-82), 3) := by decide +kernel
theorem dX5_exhaust_89 : decode cX5_exhaust 89 = .ok (.return_, 1) := by decide +kernel
theorem dX5_chosenBy_0 : decode cX5_chosenBy 0 = .ok (.aconst_null, 1) := by decide +kernel
theorem dX5_chosenBy_1 : decode cX5_chosenBy 1 = .ok (.astore_n 2, 1) := by decide +kernel
theorem dX5_chosenBy_2 : decode cX5_chosenBy 2 = .ok (.iconst 0, 1) := by decide +kernel
theorem dX5_chosenBy_3 : decode cX5_chosenBy 3 = .ok (.istore_n 3, 1) := by decide +kernel
theorem dX5_chosenBy_4 : decode cX5_chosenBy 4 = .ok (.iconst 0, 1) := by decide +kernel
theorem dX5_chosenBy_5 : decode cX5_chosenBy 5 = .ok (.istore 4, 2) := by decide +kernel
theorem dX5_chosenBy_7 : decode cX5_chosenBy 7 = .ok (.iload 4, 2) := by decide +kernel
theorem dX5_chosenBy_9 : decode cX5_chosenBy 9 = .ok (.aload_n 0, 1) := by decide +kernel
theorem dX5_chosenBy_10 : decode cX5_chosenBy 10 = .ok (.getfield 27, 3) := by decide +kernel
theorem dX5_chosenBy_13 : decode cX5_chosenBy 13 = .ok (.getfield 43, 3) := by decide +kernel
theorem dX5_chosenBy_16 : decode cX5_chosenBy 16 = .ok (.if_icmp .ge 55, 3) := by decide +kernel
theorem dX5_chosenBy_19 : decode cX5_chosenBy 19 = .ok (.aload_n 0, 1) := by decide +kernel
theorem dX5_chosenBy_20 : decode cX5_chosenBy 20 = .ok (.getfield 27, 3) := by decide +kernel
theorem dX5_chosenBy_23 : decode cX5_chosenBy 23 = .ok (.getfield 46, 3) := by decide +kernel
theorem dX5_chosenBy_26 : decode cX5_chosenBy 26 = .ok (.iload 4, 2) := by decide +kernel
theorem dX5_chosenBy_28 : decode cX5_chosenBy 28 = .ok (.aaload, 1) := by decide +kernel
theorem dX5_chosenBy_29 : decode cX5_chosenBy 29 = .ok (.astore 5, 2) := by decide +kernel
theorem dX5_chosenBy_31 : decode cX5_chosenBy 31 = .ok (.aload_n 0, 1) := by decide +kernel
theorem dX5_chosenBy_32 : decode cX5_chosenBy 32 = .ok (.aload 5, 2) := by decide +kernel
theorem dX5_chosenBy_34 : decode cX5_chosenBy 34 = .ok (.invokevirtual 98, 3) := by decide +kernel
theorem dX5_chosenBy_37 : decode cX5_chosenBy 37 = .ok (.ifCond .eq 28, 3) := by decide +kernel
theorem dX5_chosenBy_40 : decode cX5_chosenBy 40 = .ok (.aload_n 0, 1) := by decide +kernel
theorem dX5_chosenBy_41 : decode cX5_chosenBy 41 = .ok (.iload_n 1, 1) := by decide +kernel
theorem dX5_chosenBy_42 : decode cX5_chosenBy 42 = .ok (.aload 5, 2) := by decide +kernel
theorem dX5_chosenBy_44 : decode cX5_chosenBy 44 = .ok (.invokevirtual 106, 3) := by decide +kernel
theorem dX5_chosenBy_47 : decode cX5_chosenBy 47 = .ok (.istore 6, 2) := by decide +kernel
theorem dX5_chosenBy_49 : decode cX5_chosenBy 49 = .ok (.aload_n 2, 1) := by decide +kernel
theorem dX5_chosenBy_50 : decode cX5_chosenBy 50 = .ok (.ifnull 9, 3) := by decide +kernel
theorem dX5_chosenBy_53 : decode cX5_chosenBy 53 = .ok (.iload 6, 2) := by decide +kernel
theorem dX5_chosenBy_55 : decode cX5_chosenBy 55 = .ok (.iload_n 3, 1) := by decide +kernel
theorem dX5_chosenBy_56 : decode cX5_chosenBy 56 = .ok (.if_icmp .ge 9, 3) := by decide +kernel
theorem dX5_chosenBy_59 : decode cX5_chosenBy 59 = .ok (.aload 5, 2) := by decide +kernel
theorem dX5_chosenBy_61 : decode cX5_chosenBy 61 = .ok (.astore_n 2, 1) := by decide +kernel
theorem dX5_chosenBy_62 : decode cX5_chosenBy 62 = .ok (.iload 6, 2) := by decide +kernel
theorem dX5_chosenBy_64 : decode cX5_chosenBy 64 = .ok (.istore_n 3, 1) := by decide +kernel
theorem dX5_chosenBy_65 : decode cX5_chosenBy 65 = .ok (.iinc 4 1, 3) := by decide +kernel
theorem dX5_chosenBy_68 : decode cX5_chosenBy 68 = .ok (.goto (-61), 3) := by decide +kernel
theorem dX5_chosenBy_71 : decode cX5_chosenBy 71 = .ok (.aload_n 2, 1) := by decide +kernel
theorem dX5_chosenBy_72 : decode cX5_chosenBy 72 = .ok (.areturn, 1) := by decide +kernel
theorem dX5_rankBy_0 : decode cX5_rankBy 0 = .ok (.iload_n 1, 1) := by decide +kernel
theorem dX5_rankBy_1 : decode cX5_rankBy 1 = .ok (.lookupswitch 43 #[(1, 27), (2, 33)], 27) := by decide +kernel
theorem dX5_rankBy_28 : decode cX5_rankBy 28 = .ok (.aload_n 0, 1) := by decide +kernel
theorem dX5_rankBy_29 : decode cX5_rankBy 29 = .ok (.aload_n 2, 1) := by decide +kernel
theorem dX5_rankBy_30 : decode cX5_rankBy 30 = .ok (.invokevirtual 110, 3) := by decide +kernel
theorem dX5_rankBy_33 : decode cX5_rankBy 33 = .ok (.ireturn, 1) := by decide +kernel
theorem dX5_rankBy_34 : decode cX5_rankBy 34 = .ok (.aload_n 0, 1) := by decide +kernel
theorem dX5_rankBy_35 : decode cX5_rankBy 35 = .ok (.getfield 24, 3) := by decide +kernel
theorem dX5_rankBy_38 : decode cX5_rankBy 38 = .ok (.aload_n 2, 1) := by decide +kernel
theorem dX5_rankBy_39 : decode cX5_rankBy 39 = .ok (.getfield 68, 3) := by decide +kernel
theorem dX5_rankBy_42 : decode cX5_rankBy 42 = .ok (.iaload, 1) := by decide +kernel
theorem dX5_rankBy_43 : decode cX5_rankBy 43 = .ok (.ireturn, 1) := by decide +kernel
theorem dX5_rankBy_44 : decode cX5_rankBy 44 = .ok (.iconst 0, 1) := by decide +kernel
theorem dX5_rankBy_45 : decode cX5_rankBy 45 = .ok (.ireturn, 1) := by decide +kernel
theorem dX5_growthBy_0 : decode cX5_growthBy 0 = .ok (.aload_n 0, 1) := by decide +kernel
theorem dX5_growthBy_1 : decode cX5_growthBy 1 = .ok (.getfield 21, 3) := by decide +kernel
theorem dX5_growthBy_4 : decode cX5_growthBy 4 = .ok (.aload_n 1, 1) := by decide +kernel
theorem dX5_growthBy_5 : decode cX5_growthBy 5 = .ok (.getfield 68, 3) := by decide +kernel
theorem dX5_growthBy_8 : decode cX5_growthBy 8 = .ok (.iaload, 1) := by decide +kernel
theorem dX5_growthBy_9 : decode cX5_growthBy 9 = .ok (.istore_n 2, 1) := by decide +kernel
theorem dX5_growthBy_10 : decode cX5_growthBy 10 = .ok (.iconst 0, 1) := by decide +kernel
theorem dX5_growthBy_11 : decode cX5_growthBy 11 = .ok (.istore_n 3, 1) := by decide +kernel
theorem dX5_growthBy_12 : decode cX5_growthBy 12 = .ok (.aload_n 1, 1) := by decide +kernel
theorem dX5_growthBy_13 : decode cX5_growthBy 13 = .ok (.getfield 83, 3) := by decide +kernel
theorem dX5_growthBy_16 : decode cX5_growthBy 16 = .ok (.astore 4, 2) := by decide +kernel
theorem dX5_growthBy_18 : decode cX5_growthBy 18 = .ok (.aload 4, 2) := by decide +kernel
theorem dX5_growthBy_20 : decode cX5_growthBy 20 = .ok (.ifnull 22, 3) := by decide +kernel
theorem dX5_growthBy_23 : decode cX5_growthBy 23 = .ok (.iload_n 3, 1) := by decide +kernel
theorem dX5_growthBy_24 : decode cX5_growthBy 24 = .ok (.aload 4, 2) := by decide +kernel
theorem dX5_growthBy_26 : decode cX5_growthBy 26 = .ok (.iload_n 2, 1) := by decide +kernel
theorem dX5_growthBy_27 : decode cX5_growthBy 27 = .ok (.invokevirtual 86, 3) := by decide +kernel
theorem dX5_growthBy_30 : decode cX5_growthBy 30 = .ok (.iadd, 1) := by decide +kernel
theorem dX5_growthBy_31 : decode cX5_growthBy 31 = .ok (.istore_n 3, 1) := by decide +kernel
theorem dX5_growthBy_32 : decode cX5_growthBy 32 = .ok (.aload 4, 2) := by decide +kernel
theorem dX5_growthBy_34 : decode cX5_growthBy 34 = .ok (.getfield 89, 3) := by decide +kernel
theorem dX5_growthBy_37 : decode cX5_growthBy 37 = .ok (.astore 4, 2) := by decide +kernel
theorem dX5_growthBy_39 : decode cX5_growthBy 39 = .ok (.goto (-21), 3) := by decide +kernel
theorem dX5_growthBy_42 : decode cX5_growthBy 42 = .ok (.aload_n 1, 1) := by decide +kernel
theorem dX5_growthBy_43 : decode cX5_growthBy 43 = .ok (.getfield 71, 3) := by decide +kernel
theorem dX5_growthBy_46 : decode cX5_growthBy 46 = .ok (.astore 4, 2) := by decide +kernel
theorem dX5_growthBy_48 : decode cX5_growthBy 48 = .ok (.aload 4, 2) := by decide +kernel
theorem dX5_growthBy_50 : decode cX5_growthBy 50 = .ok (.ifnull 22, 3) := by decide +kernel
theorem dX5_growthBy_53 : decode cX5_growthBy 53 = .ok (.iload_n 3, 1) := by decide +kernel
theorem dX5_growthBy_54 : decode cX5_growthBy 54 = .ok (.aload 4, 2) := by decide +kernel
theorem dX5_growthBy_56 : decode cX5_growthBy 56 = .ok (.iload_n 2, 1) := by decide +kernel
theorem dX5_growthBy_57 : decode cX5_growthBy 57 = .ok (.invokevirtual 76, 3) := by decide +kernel
theorem dX5_growthBy_60 : decode cX5_growthBy 60 = .ok (.isub, 1) := by decide +kernel
theorem dX5_growthBy_61 : decode cX5_growthBy 61 = .ok (.istore_n 3, 1) := by decide +kernel
theorem dX5_growthBy_62 : decode cX5_growthBy 62 = .ok (.aload 4, 2) := by decide +kernel
theorem dX5_growthBy_64 : decode cX5_growthBy 64 = .ok (.getfield 80, 3) := by decide +kernel
theorem dX5_growthBy_67 : decode cX5_growthBy 67 = .ok (.astore 4, 2) := by decide +kernel
theorem dX5_growthBy_69 : decode cX5_growthBy 69 = .ok (.goto (-21), 3) := by decide +kernel
theorem dX5_growthBy_72 : decode cX5_growthBy 72 = .ok (.iload_n 3, 1) := by decide +kernel
theorem dX5_growthBy_73 : decode cX5_growthBy 73 = .ok (.ireturn, 1) := by decide +kernel
theorem dX6_init_0 : decode cX6_init 0 = .ok (.aload_n 0, 1) := by decide +kernel
theorem dX6_init_1 : decode cX6_init 1 = .ok (.invokespecial 3, 3) := by decide +kernel
theorem dX6_init_4 : decode cX6_init 4 = .ok (.aload_n 0, 1) := by decide +kernel
theorem dX6_init_5 : decode cX6_init 5 = .ok (.bipush 12, 2) := by decide +kernel
theorem dX6_init_7 : decode cX6_init 7 = .ok (.newarray .int, 2) := by decide +kernel
theorem dX6_init_9 : decode cX6_init 9 = .ok (.putfield 9, 3) := by decide +kernel
theorem dX6_init_12 : decode cX6_init 12 = .ok (.aload_n 0, 1) := by decide +kernel
theorem dX6_init_13 : decode cX6_init 13 = .ok (.bipush 12, 2) := by decide +kernel
theorem dX6_init_15 : decode cX6_init 15 = .ok (.newarray .int, 2) := by decide +kernel
theorem dX6_init_17 : decode cX6_init 17 = .ok (.putfield 15, 3) := by decide +kernel
theorem dX6_init_20 : decode cX6_init 20 = .ok (.aload_n 0, 1) := by decide +kernel
theorem dX6_init_21 : decode cX6_init 21 = .ok (.sipush 144, 3) := by decide +kernel
theorem dX6_init_24 : decode cX6_init 24 = .ok (.newarray .int, 2) := by decide +kernel
theorem dX6_init_26 : decode cX6_init 26 = .ok (.putfield 18, 3) := by decide +kernel
theorem dX6_init_29 : decode cX6_init 29 = .ok (.aload_n 0, 1) := by decide +kernel
theorem dX6_init_30 : decode cX6_init 30 = .ok (.sipush 144, 3) := by decide +kernel
theorem dX6_init_33 : decode cX6_init 33 = .ok (.newarray .int, 2) := by decide +kernel
theorem dX6_init_35 : decode cX6_init 35 = .ok (.putfield 21, 3) := by decide +kernel
theorem dX6_init_38 : decode cX6_init 38 = .ok (.aload_n 0, 1) := by decide +kernel
theorem dX6_init_39 : decode cX6_init 39 = .ok (.sipush 144, 3) := by decide +kernel
theorem dX6_init_42 : decode cX6_init 42 = .ok (.newarray .int, 2) := by decide +kernel
theorem dX6_init_44 : decode cX6_init 44 = .ok (.putfield 24, 3) := by decide +kernel
theorem dX6_init_47 : decode cX6_init 47 = .ok (.aload_n 0, 1) := by decide +kernel
theorem dX6_init_48 : decode cX6_init 48 = .ok (.bipush 60, 2) := by decide +kernel
theorem dX6_init_50 : decode cX6_init 50 = .ok (.newarray .int, 2) := by decide +kernel
theorem dX6_init_52 : decode cX6_init 52 = .ok (.putfield 27, 3) := by decide +kernel
theorem dX6_init_55 : decode cX6_init 55 = .ok (.aload_n 0, 1) := by decide +kernel
theorem dX6_init_56 : decode cX6_init 56 = .ok (.aload_n 1, 1) := by decide +kernel
theorem dX6_init_57 : decode cX6_init 57 = .ok (.putfield 30, 3) := by decide +kernel
theorem dX6_init_60 : decode cX6_init 60 = .ok (.return_, 1) := by decide +kernel
theorem dX6_drop_0 : decode cX6_drop 0 = .ok (.aload_n 0, 1) := by decide +kernel
theorem dX6_drop_1 : decode cX6_drop 1 = .ok (.iconst 0, 1) := by decide +kernel
theorem dX6_drop_2 : decode cX6_drop 2 = .ok (.putfield 34, 3) := by decide +kernel
theorem dX6_drop_5 : decode cX6_drop 5 = .ok (.return_, 1) := by decide +kernel
theorem dX6_itemAt_0 : decode cX6_itemAt 0 = .ok (.iload_n 1, 1) := by decide +kernel
theorem dX6_itemAt_1 : decode cX6_itemAt 1 = .ok (.ifCond .lt 11, 3) := by decide +kernel
theorem dX6_itemAt_4 : decode cX6_itemAt 4 = .ok (.iload_n 1, 1) := by decide +kernel
theorem dX6_itemAt_5 : decode cX6_itemAt 5 = .ok (.aload_n 0, 1) := by decide +kernel
theorem dX6_itemAt_6 : decode cX6_itemAt 6 = .ok (.getfield 34, 3) := by decide +kernel
theorem dX6_itemAt_9 : decode cX6_itemAt 9 = .ok (.if_icmp .lt 8, 3) := by decide +kernel
theorem dX6_itemAt_12 : decode cX6_itemAt 12 = .ok (.bipush (-9), 2) := by decide +kernel
theorem dX6_itemAt_14 : decode cX6_itemAt 14 = .ok (.goto 9, 3) := by decide +kernel
theorem dX6_itemAt_17 : decode cX6_itemAt 17 = .ok (.aload_n 0, 1) := by decide +kernel
theorem dX6_itemAt_18 : decode cX6_itemAt 18 = .ok (.getfield 27, 3) := by decide +kernel
theorem dX6_itemAt_21 : decode cX6_itemAt 21 = .ok (.iload_n 1, 1) := by decide +kernel
theorem dX6_itemAt_22 : decode cX6_itemAt 22 = .ok (.iaload, 1) := by decide +kernel
theorem dX6_itemAt_23 : decode cX6_itemAt 23 = .ok (.ireturn, 1) := by decide +kernel
theorem dX6_arrange_0 : decode cX6_arrange 0 = .ok (.aload_n 0, 1) := by decide +kernel
theorem dX6_arrange_1 : decode cX6_arrange 1 = .ok (.invokevirtual 38, 3) := by decide +kernel
theorem dX6_arrange_4 : decode cX6_arrange 4 = .ok (.ifCond .ne 5, 3) := by decide +kernel
theorem dX6_arrange_7 : decode cX6_arrange 7 = .ok (.iconst 0, 1) := by decide +kernel
theorem dX6_arrange_8 : decode cX6_arrange 8 = .ok (.ireturn, 1) := by decide +kernel
theorem dX6_arrange_9 : decode cX6_arrange 9 = .ok (.aload_n 0, 1) := by decide +kernel
theorem dX6_arrange_10 : decode cX6_arrange 10 = .ok (.getfield 30, 3) := by decide +kernel
theorem dX6_arrange_13 : decode cX6_arrange 13 = .ok (.getfield 42, 3) := by decide +kernel
theorem dX6_arrange_16 : decode cX6_arrange 16 = .ok (.iconst 1, 1) := by decide +kernel
theorem dX6_arrange_17 : decode cX6_arrange 17 = .ok (.isub, 1) := by decide +kernel
theorem dX6_arrange_18 : decode cX6_arrange 18 = .ok (.istore_n 1, 1) := by decide +kernel
theorem dX6_arrange_19 : decode cX6_arrange 19 = .ok (.aload_n 0, 1) := by decide +kernel
theorem dX6_arrange_20 : decode cX6_arrange 20 = .ok (.invokevirtual 47, 3) := by decide +kernel
theorem dX6_arrange_23 : decode cX6_arrange 23 = .ok (.iconst 1, 1) := by decide +kernel
theorem dX6_arrange_24 : decode cX6_arrange 24 = .ok (.istore_n 2, 1) := by decide +kernel
theorem dX6_arrange_25 : decode cX6_arrange 25 = .ok (.iload_n 2, 1) := by decide +kernel
theorem dX6_arrange_26 : decode cX6_arrange 26 = .ok (.iload_n 1, 1) := by decide +kernel
theorem dX6_arrange_27 : decode cX6_arrange 27 = .ok (.if_icmp .gt 32, 3) := by decide +kernel
theorem dX6_arrange_30 : decode cX6_arrange 30 = .ok (.iconst 0, 1) := by decide +kernel
theorem dX6_arrange_31 : decode cX6_arrange 31 = .ok (.istore_n 3, 1) := by decide +kernel
theorem dX6_arrange_32 : decode cX6_arrange 32 = .ok (.iload_n 3, 1) := by decide +kernel
theorem dX6_arrange_33 : decode cX6_arrange 33 = .ok (.iload_n 2, 1) := by decide +kernel
theorem dX6_arrange_34 : decode cX6_arrange 34 = .ok (.iadd, 1) := by decide +kernel
theorem dX6_arrange_35 : decode cX6_arrange 35 = .ok (.iload_n 1, 1) := by decide +kernel
theorem dX6_arrange_36 : decode cX6_arrange 36 = .ok (.if_icmp .gt 17, 3) := by decide +kernel
theorem dX6_arrange_39 : decode cX6_arrange 39 = .ok (.aload_n 0, 1) := by decide +kernel
theorem dX6_arrange_40 : decode cX6_arrange 40 = .ok (.iload_n 3, 1) := by decide +kernel
theorem dX6_arrange_41 : decode cX6_arrange 41 = .ok (.iload_n 3, 1) := by decide +kernel
theorem dX6_arrange_42 : decode cX6_arrange 42 = .ok (.iload_n 2, 1) := by decide +kernel
theorem dX6_arrange_43 : decode cX6_arrange 43 = .ok (.iadd, 1) := by decide +kernel
theorem dX6_arrange_44 : decode cX6_arrange 44 = .ok (.invokevirtual 50, 3) := by decide +kernel
theorem dX6_arrange_47 : decode cX6_arrange 47 = .ok (.iinc 3 1, 3) := by decide +kernel
theorem dX6_arrange_50 : decode cX6_arrange 50 = .ok (.goto (-18), 3) := by decide +kernel
theorem dX6_arrange_53 : decode cX6_arrange 53 = .ok (.iinc 2 1, 3) := by decide +kernel
theorem dX6_arrange_56 : decode cX6_arrange 56 = .ok (.goto (-31), 3) := by decide +kernel
theorem dX6_arrange_59 : decode cX6_arrange 59 = .ok (.aload_n 0, 1) := by decide +kernel
theorem dX6_arrange_60 : decode cX6_arrange 60 = .ok (.iconst 0, 1) := by decide +kernel
theorem dX6_arrange_61 : decode cX6_arrange 61 = .ok (.putfield 34, 3) := by decide +kernel
theorem dX6_arrange_64 : decode cX6_arrange 64 = .ok (.aload_n 0, 1) := by decide +kernel
theorem dX6_arrange_65 : decode cX6_arrange 65 = .ok (.iconst 0, 1) := by decide +kernel
theorem dX6_arrange_66 : decode cX6_arrange 66 = .ok (.iload_n 1, 1) := by decide +kernel
theorem dX6_arrange_67 : decode cX6_arrange 67 = .ok (.iconst 1, 1) := by decide +kernel
theorem dX6_arrange_68 : decode cX6_arrange 68 = .ok (.iconst 0, 1) := by decide +kernel
theorem dX6_arrange_69 : decode cX6_arrange 69 = .ok (.invokevirtual 54, 3) := by decide +kernel
theorem dX6_arrange_72 : decode cX6_arrange 72 = .ok (.iconst 1, 1) := by decide +kernel
theorem dX6_arrange_73 : decode cX6_arrange 73 = .ok (.ireturn, 1) := by decide +kernel
theorem dX6_unrollInto_0 : decode cX6_unrollInto 0 = .ok (.aload_n 0, 1) := by decide +kernel
theorem dX6_unrollInto_1 : decode cX6_unrollInto 1 = .ok (.iconst 0, 1) := by decide +kernel
theorem dX6_unrollInto_2 : decode cX6_unrollInto 2 = .ok (.putfield 58, 3) := by decide +kernel
theorem dX6_unrollInto_5 : decode cX6_unrollInto 5 = .ok (.aload_n 0, 1) := by decide +kernel
theorem dX6_unrollInto_6 : decode cX6_unrollInto 6 = .ok (.aload_n 1, 1) := by decide +kernel
theorem dX6_unrollInto_7 : decode cX6_unrollInto 7 = .ok (.iconst 0, 1) := by decide +kernel
theorem dX6_unrollInto_8 : decode cX6_unrollInto 8 = .ok (.aload_n 0, 1) := by decide +kernel
theorem dX6_unrollInto_9 : decode cX6_unrollInto 9 = .ok (.getfield 30, 3) := by decide +kernel
theorem dX6_unrollInto_12 : decode cX6_unrollInto 12 = .ok (.getfield 42, 3) := by decide +kernel
theorem dX6_unrollInto_15 : decode cX6_unrollInto 15 = .ok (.iconst 1, 1) := by decide +kernel
theorem dX6_unrollInto_16 : decode cX6_unrollInto 16 = .ok (.isub, 1) := by decide +kernel
theorem dX6_unrollInto_17 : decode cX6_unrollInto 17 = .ok (.iconst 1, 1) := by decide +kernel
theorem dX6_unrollInto_18 : decode cX6_unrollInto 18 = .ok (.iconst 0, 1) := by decide +kernel
theorem dX6_unrollInto_19 : decode cX6_unrollInto 19 = .ok (.invokevirtual 61, 3) := by decide +kernel
theorem dX6_unrollInto_22 : decode cX6_unrollInto 22 = .ok (.return_, 1) := by decide +kernel
theorem dX6_putInOrder_0 : decode cX6_putInOrder 0 = .ok (.aload_n 0, 1) := by decide +kernel
theorem dX6_putInOrder_1 : decode cX6_putInOrder 1 = .ok (.getfield 15, 3) := by decide +kernel
theorem dX6_putInOrder_4 : decode cX6_putInOrder 4 = .ok (.bipush (-9), 2) := by decide +kernel
theorem dX6_putInOrder_6 : decode cX6_putInOrder 6 = .ok (.invokestatic 65, 3) := by decide +kernel
theorem dX6_putInOrder_9 : decode cX6_putInOrder 9 = .ok (.iconst 0, 1) := by decide +kernel
theorem dX6_putInOrder_10 : decode cX6_putInOrder 10 = .ok (.istore_n 1, 1) := by decide +kernel
theorem dX6_putInOrder_11 : decode cX6_putInOrder 11 = .ok (.iload_n 1, 1) := by decide +kernel
theorem dX6_putInOrder_12 : decode cX6_putInOrder 12 = .ok (.aload_n 0, 1) := by decide +kernel
theorem dX6_putInOrder_13 : decode cX6_putInOrder 13 = .ok (.getfield 30, 3) := by decide +kernel
theorem dX6_putInOrder_16 : decode cX6_putInOrder 16 = .ok (.getfield 42, 3) := by decide +kernel
theorem dX6_putInOrder_19 : decode cX6_putInOrder 19 = .ok (.if_icmp .ge 34, 3) := by decide +kernel
theorem dX6_putInOrder_22 : decode cX6_putInOrder 22 = .ok (.aload_n 0, 1) := by decide +kernel
theorem dX6_putInOrder_23 : decode cX6_putInOrder 23 = .ok (.invokevirtual 71, 3) := by decide +kernel
theorem dX6_putInOrder_26 : decode cX6_putInOrder 26 = .ok (.istore_n 2, 1) := by decide +kernel
theorem dX6_putInOrder_27 : decode cX6_putInOrder 27 = .ok (.iload_n 2, 1) := by decide +kernel
theorem dX6_putInOrder_28 : decode cX6_putInOrder 28 = .ok (.ifCond .ge 5, 3) := by decide +kernel
theorem dX6_putInOrder_31 : decode cX6_putInOrder 31 = .ok (.iconst 0, 1) := by decide +kernel
theorem dX6_putInOrder_32 : decode cX6_putInOrder 32 = .ok (.ireturn, 1) := by decide +kernel
theorem dX6_putInOrder_33 : decode cX6_putInOrder 33 = .ok (.aload_n 0, 1) := by decide +kernel
theorem dX6_putInOrder_34 : decode cX6_putInOrder 34 = .ok (.getfield 9, 3) := by decide +kernel
theorem dX6_putInOrder_37 : decode cX6_putInOrder 37 = .ok (.iload_n 1, 1) := by decide +kernel
theorem dX6_putInOrder_38 : decode cX6_putInOrder 38 = .ok (.iload_n 2, 1) := by decide +kernel
theorem dX6_putInOrder_39 : decode cX6_putInOrder 39 = .ok (.iastore, 1) := by decide +kernel
theorem dX6_putInOrder_40 : decode cX6_putInOrder 40 = .ok (.aload_n 0, 1) := by decide +kernel
theorem dX6_putInOrder_41 : decode cX6_putInOrder 41 = .ok (.getfield 15, 3) := by decide +kernel
theorem dX6_putInOrder_44 : decode cX6_putInOrder 44 = .ok (.iload_n 2, 1) := by decide +kernel
theorem dX6_putInOrder_45 : decode cX6_putInOrder 45 = .ok (.iload_n 1, 1) := by decide +kernel
theorem dX6_putInOrder_46 : decode cX6_putInOrder 46 = .ok (.iastore, 1) := by decide +kernel
theorem dX6_putInOrder_47 : decode cX6_putInOrder 47 = .ok (.iinc 1 1, 3) := by decide +kernel
theorem dX6_putInOrder_50 : decode cX6_putInOrder 50 = .ok (.goto (-39), 3) := by decide +kernel
theorem dX6_putInOrder_53 : decode cX6_putInOrder 53 = .ok (.iconst 1, 1) := by decide +kernel
theorem dX6_putInOrder_54 : decode cX6_putInOrder 54 = .ok (.ireturn, 1) := by decide +kernel
theorem dX6_leastFree_0 : decode cX6_leastFree 0 = .ok (.iconst 0, 1) := by decide +kernel
theorem dX6_leastFree_1 : decode cX6_leastFree 1 = .ok (.istore_n 1, 1) := by decide +kernel
theorem dX6_leastFree_2 : decode cX6_leastFree 2 = .ok (.iload_n 1, 1) := by decide +kernel
theorem dX6_leastFree_3 : decode cX6_leastFree 3 = .ok (.aload_n 0, 1) := by decide +kernel
theorem dX6_leastFree_4 : decode cX6_leastFree 4 = .ok (.getfield 30, 3) := by decide +kernel
theorem dX6_leastFree_7 : decode cX6_leastFree 7 = .ok (.getfield 42, 3) := by decide +kernel
theorem dX6_leastFree_10 : decode cX6_leastFree 10 = .ok (.if_icmp .ge 38, 3) := by decide +kernel
theorem dX6_leastFree_13 : decode cX6_leastFree 13 = .ok (.aload_n 0, 1) := by decide +kernel
theorem dX6_leastFree_14 : decode cX6_leastFree 14 = .ok (.getfield 15, 3) := by decide +kernel
theorem dX6_leastFree_17 : decode cX6_leastFree 17 = .ok (.iload_n 1, 1) := by decide +kernel
theorem dX6_leastFree_18 : decode cX6_leastFree 18 = .ok (.iaload, 1) := by decide +kernel
theorem dX6_leastFree_19 : decode cX6_leastFree 19 = .ok (.bipush (-9), 2) := by decide +kernel
theorem dX6_leastFree_21 : decode cX6_leastFree 21 = .ok (.if_icmp .ne 21, 3) := by decide +kernel
theorem dX6_leastFree_24 : decode cX6_leastFree 24 = .ok (.aload_n 0, 1) := by decide +kernel
theorem dX6_leastFree_25 : decode cX6_leastFree 25 = .ok (.aload_n 0, 1) := by decide +kernel
theorem dX6_leastFree_26 : decode cX6_leastFree 26 = .ok (.getfield 30, 3) := by decide +kernel
theorem dX6_leastFree_29 : decode cX6_leastFree 29 = .ok (.getfield 75, 3) := by decide +kernel
theorem dX6_leastFree_32 : decode cX6_leastFree 32 = .ok (.iload_n 1, 1) := by decide +kernel
theorem dX6_leastFree_33 : decode cX6_leastFree 33 = .ok (.aaload, 1) := by decide +kernel
theorem dX6_leastFree_34 : decode cX6_leastFree 34 = .ok (.invokevirtual 79, 3) := by decide +kernel
theorem dX6_leastFree_37 : decode cX6_leastFree 37 = .ok (.ifCond .ne 5, 3) := by decide +kernel
theorem dX6_leastFree_40 : decode cX6_leastFree 40 = .ok (.iload_n 1, 1) := by decide +kernel
theorem dX6_leastFree_41 : decode cX6_leastFree 41 = .ok (.ireturn, 1) := by decide +kernel
theorem dX6_leastFree_42 : decode cX6_leastFree 42 = .ok (.iinc 1 1, 3) := by decide +kernel
theorem dX6_leastFree_45 : decode cX6_leastFree 45 = .ok (.goto (-43), 3) := by decide +kernel
theorem dX6_leastFree_48 : decode cX6_leastFree 48 = .ok (.bipush (-9), 2) := by decide +kernel
theorem dX6_leastFree_50 : decode cX6_leastFree 50 = .ok (.ireturn, 1) := by decide +kernel
theorem dX6_isFed_0 : decode cX6_isFed 0 = .ok (.aload_n 1, 1) := by decide +kernel
theorem dX6_isFed_1 : decode cX6_isFed 1 = .ok (.getfield 83, 3) := by decide +kernel
theorem dX6_isFed_4 : decode cX6_isFed 4 = .ok (.astore_n 2, 1) := by decide +kernel
theorem dX6_isFed_5 : decode cX6_isFed 5 = .ok (.aload_n 2, 1) := by decide +kernel
theorem dX6_isFed_6 : decode cX6_isFed 6 = .ok (.ifnull 30, 3) := by decide +kernel
theorem dX6_isFed_9 : decode cX6_isFed 9 = .ok (.aload_n 0, 1) := by decide +kernel
theorem dX6_isFed_10 : decode cX6_isFed 10 = .ok (.getfield 15, 3) := by decide +kernel
theorem dX6_isFed_13 : decode cX6_isFed 13 = .ok (.aload_n 2, 1) := by decide +kernel
theorem dX6_isFed_14 : decode cX6_isFed 14 = .ok (.getfield 89, 3) := by decide +kernel
theorem dX6_isFed_17 : decode cX6_isFed 17 = .ok (.getfield 95, 3) := by decide +kernel
theorem dX6_isFed_20 : decode cX6_isFed 20 = .ok (.iaload, 1) := by decide +kernel
theorem dX6_isFed_21 : decode cX6_isFed 21 = .ok (.bipush (-9), 2) := by decide +kernel
theorem dX6_isFed_23 : decode cX6_isFed 23 = .ok (.if_icmp .ne 5, 3) := by decide +kernel
theorem dX6_isFed_26 : decode cX6_isFed 26 = .ok (.iconst 1, 1) := by decide +kernel
theorem dX6_isFed_27 : decode cX6_isFed 27 = .ok (.ireturn, 1) := by decide +kernel
theorem dX6_isFed_28 : decode cX6_isFed 28 = .ok (.aload_n 2, 1) := by decide +kernel
theorem dX6_isFed_29 : decode cX6_isFed 29 = .ok (.getfield 98, 3) := by decide +kernel
theorem dX6_isFed_32 : decode cX6_isFed 32 = .ok (.astore_n 2, 1) := by decide +kernel
theorem dX6_isFed_33 : decode cX6_isFed 33 = .ok (.goto (-28), 3) := by decide +kernel
theorem dX6_isFed_36 : decode cX6_isFed 36 = .ok (.iconst 0, 1) := by decide +kernel
theorem dX6_isFed_37 : decode cX6_isFed 37 = .ok (.ireturn, 1) := by decide +kernel
theorem dX6_findDivisors_0 : decode cX6_findDivisors 0 = .ok (.iconst 0, 1) := by decide +kernel
theorem dX6_findDivisors_1 : decode cX6_findDivisors 1 = .ok (.istore_n 1, 1) := by decide +kernel
theorem dX6_findDivisors_2 : decode cX6_findDivisors 2 = .ok (.iload_n 1, 1) := by decide +kernel
theorem dX6_findDivisors_3 : decode cX6_findDivisors 3 = .ok (.aload_n 0, 1) := by decide +kernel
theorem dX6_findDivisors_4 : decode cX6_findDivisors 4 = .ok (.getfield 30, 3) := by decide +kernel
theorem dX6_findDivisors_7 : decode cX6_findDivisors 7 = .ok (.getfield 42, 3) := by decide +kernel
theorem dX6_findDivisors_10 : decode cX6_findDivisors 10 = .ok (.if_icmp .ge 95, 3) := by decide +kernel
theorem dX6_findDivisors_13 : decode cX6_findDivisors 13 = .ok (.aload_n 0, 1) := by decide +kernel
theorem dX6_findDivisors_14 : decode cX6_findDivisors 14 = .ok (.getfield 30, 3) := by decide +kernel
theorem dX6_findDivisors_17 : decode cX6_findDivisors 17 = .ok (.getfield 75, 3) := by decide +kernel
theorem dX6_findDivisors_20 : decode cX6_findDivisors 20 = .ok (.aload_n 0, 1) := by decide +kernel
theorem dX6_findDivisors_21 : decode cX6_findDivisors 21 = .ok (.getfield 9, 3) := by decide +kernel
theorem dX6_findDivisors_24 : decode cX6_findDivisors 24 = .ok (.iload_n 1, 1) := by decide +kernel
theorem dX6_findDivisors_25 : decode cX6_findDivisors 25 = .ok (.iaload, 1) := by decide +kernel
theorem dX6_findDivisors_26 : decode cX6_findDivisors 26 = .ok (.aaload, 1) := by decide +kernel
theorem dX6_findDivisors_27 : decode cX6_findDivisors 27 = .ok (.getfield 101, 3) := by decide +kernel
theorem dX6_findDivisors_30 : decode cX6_findDivisors 30 = .ok (.istore_n 2, 1) := by decide +kernel
theorem dX6_findDivisors_31 : decode cX6_findDivisors 31 = .ok (.iload_n 1, 1) := by decide +kernel
theorem dX6_findDivisors_32 : decode cX6_findDivisors 32 = .ok (.istore_n 3, 1) := by decide +kernel
theorem dX6_findDivisors_33 : decode cX6_findDivisors 33 = .ok (.iload_n 3, 1) := by decide +kernel
theorem dX6_findDivisors_34 : decode cX6_findDivisors 34 = .ok (.aload_n 0, 1) := by decide +kernel
theorem dX6_findDivisors_35 : decode cX6_findDivisors 35 = .ok (.getfield 30, 3) := by decide +kernel
theorem dX6_findDivisors_38 : decode cX6_findDivisors 38 = .ok (.getfield 42, 3) := by decide +kernel
theorem dX6_findDivisors_41 : decode cX6_findDivisors 41 = .ok (.if_icmp .ge 46, 3) := by decide +kernel
theorem dX6_findDivisors_44 : decode cX6_findDivisors 44 = .ok (.iload_n 2, 1) := by decide +kernel
theorem dX6_findDivisors_45 : decode cX6_findDivisors 45 = .ok (.i2l, 1) := by decide +kernel
theorem dX6_findDivisors_46 : decode cX6_findDivisors 46 = .ok (.aload_n 0, 1) := by decide +kernel
theorem dX6_findDivisors_47 : decode cX6_findDivisors 47 = .ok (.getfield 30, 3) := by decide +kernel
theorem dX6_findDivisors_50 : decode cX6_findDivisors 50 = .ok (.getfield 75, 3) := by decide +kernel
theorem dX6_findDivisors_53 : decode cX6_findDivisors 53 = .ok (.aload_n 0, 1) := by decide +kernel
theorem dX6_findDivisors_54 : decode cX6_findDivisors 54 = .ok (.getfield 9, 3) := by decide +kernel
theorem dX6_findDivisors_57 : decode cX6_findDivisors 57 = .ok (.iload_n 3, 1) := by decide +kernel
theorem dX6_findDivisors_58 : decode cX6_findDivisors 58 = .ok (.iaload, 1) := by decide +kernel
theorem dX6_findDivisors_59 : decode cX6_findDivisors 59 = .ok (.aaload, 1) := by decide +kernel
theorem dX6_findDivisors_60 : decode cX6_findDivisors 60 = .ok (.getfield 101, 3) := by decide +kernel
theorem dX6_findDivisors_63 : decode cX6_findDivisors 63 = .ok (.i2l, 1) := by decide +kernel
theorem dX6_findDivisors_64 : decode cX6_findDivisors 64 = .ok (.invokestatic 104, 3) := by decide +kernel
theorem dX6_findDivisors_67 : decode cX6_findDivisors 67 = .ok (.l2i, 1) := by decide +kernel
theorem dX6_findDivisors_68 : decode cX6_findDivisors 68 = .ok (.istore_n 2, 1) := by decide +kernel
theorem dX6_findDivisors_69 : decode cX6_findDivisors 69 = .ok (.aload_n 0, 1) := by decide +kernel
theorem dX6_findDivisors_70 : decode cX6_findDivisors 70 = .ok (.getfield 18, 3) := by decide +kernel
theorem dX6_findDivisors_73 : decode cX6_findDivisors 73 = .ok (.iload_n 1, 1) := by decide +kernel
theorem dX6_findDivisors_74 : decode cX6_findDivisors 74 = .ok (.bipush 12, 2) := by decide +kernel
theorem dX6_findDivisors_76 : decode cX6_findDivisors 76 = .ok (.imul, 1) := by decide +kernel
theorem dX6_findDivisors_77 : decode cX6_findDivisors 77 = .ok (.iload_n 3, 1) := by decide +kernel
theorem dX6_findDivisors_78 : decode cX6_findDivisors 78 = .ok (.iadd, 1) := by decide +kernel
theorem dX6_findDivisors_79 : decode cX6_findDivisors 79 = .ok (.iload_n 2, 1) := by decide +kernel
theorem dX6_findDivisors_80 : decode cX6_findDivisors 80 = .ok (.iastore, 1) := by decide +kernel
theorem dX6_findDivisors_81 : decode cX6_findDivisors 81 = .ok (.iinc 3 1, 3) := by decide +kernel
theorem dX6_findDivisors_84 : decode cX6_findDivisors 84 = .ok (.goto (-51), 3) := by decide +kernel
theorem dX6_findDivisors_87 : decode cX6_findDivisors 87 = .ok (.aload_n 0, 1) := by decide +kernel
theorem dX6_findDivisors_88 : decode cX6_findDivisors 88 = .ok (.getfield 21, 3) := by decide +kernel
theorem dX6_findDivisors_91 : decode cX6_findDivisors 91 = .ok (.iload_n 1, 1) := by decide +kernel
theorem dX6_findDivisors_92 : decode cX6_findDivisors 92 = .ok (.bipush 12, 2) := by decide +kernel
theorem dX6_findDivisors_94 : decode cX6_findDivisors 94 = .ok (.imul, 1) := by decide +kernel
theorem dX6_findDivisors_95 : decode cX6_findDivisors 95 = .ok (.iload_n 1, 1) := by decide +kernel
theorem dX6_findDivisors_96 : decode cX6_findDivisors 96 = .ok (.iadd, 1) := by decide +kernel
theorem dX6_findDivisors_97 : decode cX6_findDivisors 97 = .ok (.iconst 0, 1) := by decide +kernel
theorem dX6_findDivisors_98 : decode cX6_findDivisors 98 = .ok (.iastore, 1) := by decide +kernel
theorem dX6_findDivisors_99 : decode cX6_findDivisors 99 = .ok (.iinc 1 1, 3) := by decide +kernel
theorem dX6_findDivisors_102 : decode cX6_findDivisors 102 = .ok (.goto (-100), 3) := by decide +kernel
theorem dX6_findDivisors_105 : decode cX6_findDivisors 105 = .ok (.return_, 1) := by decide +kernel
theorem dX6_partInTwo_0 : decode cX6_partInTwo 0 = .ok (.iload_n 1, 1) := by decide +kernel
theorem dX6_partInTwo_1 : decode cX6_partInTwo 1 = .ok (.bipush 12, 2) := by decide +kernel
theorem dX6_partInTwo_3 : decode cX6_partInTwo 3 = .ok (.imul, 1) := by decide +kernel
theorem dX6_partInTwo_4 : decode cX6_partInTwo 4 = .ok (.iload_n 2, 1) := by decide +kernel
theorem dX6_partInTwo_5 : decode cX6_partInTwo 5 = .ok (.iadd, 1) := by decide +kernel
theorem dX6_partInTwo_6 : decode cX6_partInTwo 6 = .ok (.istore_n 3, 1) := by decide +kernel
theorem dX6_partInTwo_7 : decode cX6_partInTwo 7 = .ok (.aload_n 0, 1) := by decide +kernel
theorem dX6_partInTwo_8 : decode cX6_partInTwo 8 = .ok (.getfield 21, 3) := by decide +kernel
theorem dX6_partInTwo_11 : decode cX6_partInTwo 11 = .ok (.iload_n 3, 1) := by decide +kernel
theorem dX6_partInTwo_12 : decode cX6_partInTwo 12 = .ok (.ldc 108, 2) := by decide +kernel
theorem dX6_partInTwo_14 : decode cX6_partInTwo 14 = .ok (.iastore, 1) := by decide +kernel
theorem dX6_partInTwo_15 : decode cX6_partInTwo 15 = .ok (.iload_n 1, 1) := by decide +kernel
theorem dX6_partInTwo_16 : decode cX6_partInTwo 16 = .ok (.istore 4, 2) := by decide +kernel
theorem dX6_partInTwo_18 : decode cX6_partInTwo 18 = .ok (.iload 4, 2) := by decide +kernel
theorem dX6_partInTwo_20 : decode cX6_partInTwo 20 = .ok (.iload_n 2, 1) := by decide +kernel
theorem dX6_partInTwo_21 : decode cX6_partInTwo 21 = .ok (.if_icmp .ge 74, 3) := by decide +kernel
theorem dX6_partInTwo_24 : decode cX6_partInTwo 24 = .ok (.aload_n 0, 1) := by decide +kernel
theorem dX6_partInTwo_25 : decode cX6_partInTwo 25 = .ok (.getfield 21, 3) := by decide +kernel
theorem dX6_partInTwo_28 : decode cX6_partInTwo 28 = .ok (.iload_n 1, 1) := by decide +kernel
theorem dX6_partInTwo_29 : decode cX6_partInTwo 29 = .ok (.bipush 12, 2) := by decide +kernel
theorem dX6_partInTwo_31 : decode cX6_partInTwo 31 = .ok (.imul, 1) := by decide +kernel
theorem dX6_partInTwo_32 : decode cX6_partInTwo 32 = .ok (.iload 4, 2) := by decide +kernel
theorem dX6_partInTwo_34 : decode cX6_partInTwo 34 = .ok (.iadd, 1) := by decide +kernel
theorem dX6_partInTwo_35 : decode cX6_partInTwo 35 = .ok (.iaload, 1) := by decide +kernel
theorem dX6_partInTwo_36 : decode cX6_partInTwo 36 = .ok (.aload_n 0, 1) := by decide +kernel
theorem dX6_partInTwo_37 : decode cX6_partInTwo 37 = .ok (.getfield 21, 3) := by decide +kernel
theorem dX6_partInTwo_40 : decode cX6_partInTwo 40 = .ok (.iload 4, 2) := by decide +kernel
theorem dX6_partInTwo_42 : decode cX6_partInTwo 42 = .ok (.iconst 1, 1) := by decide +kernel
theorem dX6_partInTwo_43 : decode cX6_partInTwo 43 = .ok (.iadd, 1) := by decide +kernel
theorem dX6_partInTwo_44 : decode cX6_partInTwo 44 = .ok (.bipush 12, 2) := by decide +kernel
theorem dX6_partInTwo_46 : decode cX6_partInTwo 46 = .ok (.imul, 1) := by decide +kernel
theorem dX6_partInTwo_47 : decode cX6_partInTwo 47 = .ok (.iload_n 2, 1) := by decide +kernel
theorem dX6_partInTwo_48 : decode cX6_partInTwo 48 = .ok (.iadd, 1) := by decide +kernel
theorem dX6_partInTwo_49 : decode cX6_partInTwo 49 = .ok (.iaload, 1) := by decide +kernel
theorem dX6_partInTwo_50 : decode cX6_partInTwo 50 = .ok (.iadd, 1) := by decide +kernel
theorem dX6_partInTwo_51 : decode cX6_partInTwo 51 = .ok (.aload_n 0, 1) := by decide +kernel
theorem dX6_partInTwo_52 : decode cX6_partInTwo 52 = .ok (.iload_n 1, 1) := by decide +kernel
theorem dX6_partInTwo_53 : decode cX6_partInTwo 53 = .ok (.iload 4, 2) := by decide +kernel
theorem dX6_partInTwo_55 : decode cX6_partInTwo 55 = .ok (.iload_n 2, 1) := by decide +kernel
theorem dX6_partInTwo_56 : decode cX6_partInTwo 56 = .ok (.invokevirtual 109, 3) := by decide +kernel
theorem dX6_partInTwo_59 : decode cX6_partInTwo 59 = .ok (.iadd, 1) := by decide +kernel
theorem dX6_partInTwo_60 : decode cX6_partInTwo 60 = .ok (.istore 5, 2) := by decide +kernel
theorem dX6_partInTwo_62 : decode cX6_partInTwo 62 = .ok (.iload 5, 2) := by decide +kernel
theorem dX6_partInTwo_64 : decode cX6_partInTwo 64 = .ok (.aload_n 0, 1) := by decide +kernel
theorem dX6_partInTwo_65 : decode cX6_partInTwo 65 = .ok (.getfield 21, 3) := by decide +kernel
theorem dX6_partInTwo_68 : decode cX6_partInTwo 68 = .ok (.iload_n 3, 1) := by decide +kernel
theorem dX6_partInTwo_69 : decode cX6_partInTwo 69 = .ok (.iaload, 1) := by decide +kernel
theorem dX6_partInTwo_70 : decode cX6_partInTwo 70 = .ok (.if_icmp .ge 19, 3) := by decide +kernel
theorem dX6_partInTwo_73 : decode cX6_partInTwo 73 = .ok (.aload_n 0, 1) := by decide +kernel
theorem dX6_partInTwo_74 : decode cX6_partInTwo 74 = .ok (.getfield 21, 3) := by decide +kernel
theorem dX6_partInTwo_77 : decode cX6_partInTwo 77 = .ok (.iload_n 3, 1) := by decide +kernel
theorem dX6_partInTwo_78 : decode cX6_partInTwo 78 = .ok (.iload 5, 2) := by decide +kernel
theorem dX6_partInTwo_80 : decode cX6_partInTwo 80 = .ok (.iastore, 1) := by decide +kernel
theorem dX6_partInTwo_81 : decode cX6_partInTwo 81 = .ok (.aload_n 0, 1) := by decide +kernel
theorem dX6_partInTwo_82 : decode cX6_partInTwo 82 = .ok (.getfield 24, 3) := by decide +kernel
theorem dX6_partInTwo_85 : decode cX6_partInTwo 85 = .ok (.iload_n 3, 1) := by decide +kernel
theorem dX6_partInTwo_86 : decode cX6_partInTwo 86 = .ok (.iload 4, 2) := by decide +kernel
theorem dX6_partInTwo_88 : decode cX6_partInTwo 88 = .ok (.iastore, 1) := by decide +kernel
theorem dX6_partInTwo_89 : decode cX6_partInTwo 89 = .ok (.iinc 4 1, 3) := by decide +kernel
theorem dX6_partInTwo_92 : decode cX6_partInTwo 92 = .ok (.goto (-74), 3) := by decide +kernel
theorem dX6_partInTwo_95 : decode cX6_partInTwo 95 = .ok (.return_, 1) := by decide +kernel
theorem dX6_storesAcross_0 : decode cX6_storesAcross 0 = .ok (.aload_n 0, 1) := by decide +kernel
theorem dX6_storesAcross_1 : decode cX6_storesAcross 1 = .ok (.getfield 18, 3) := by decide +kernel
theorem dX6_storesAcross_4 : decode cX6_storesAcross 4 = .ok (.iload_n 1, 1) := by decide +kernel
theorem dX6_storesAcross_5 : decode cX6_storesAcross 5 = .ok (.bipush 12, 2) := by decide +kernel
theorem dX6_storesAcross_7 : decode cX6_storesAcross 7 = .ok (.imul, 1) := by decide +kernel
theorem dX6_storesAcross_8 : decode cX6_storesAcross 8 = .ok (.iload_n 3, 1) := by decide +kernel
theorem dX6_storesAcross_9 : decode cX6_storesAcross 9 = .ok (.iadd, 1) := by decide +kernel
theorem dX6_storesAcross_10 : decode cX6_storesAcross 10 = .ok (.iaload, 1) := by decide +kernel
theorem dX6_storesAcross_11 : decode cX6_storesAcross 11 = .ok (.iconst 1, 1) := by decide +kernel
theorem dX6_storesAcross_12 : decode cX6_storesAcross 12 = .ok (.invokestatic 113, 3) := by decide +kernel
theorem dX6_storesAcross_15 : decode cX6_storesAcross 15 = .ok (.istore 4, 2) := by decide +kernel
theorem dX6_storesAcross_17 : decode cX6_storesAcross 17 = .ok (.iconst 0, 1) := by decide +kernel
theorem dX6_storesAcross_18 : decode cX6_storesAcross 18 = .ok (.istore 5, 2) := by decide +kernel
theorem dX6_storesAcross_20 : decode cX6_storesAcross 20 = .ok (.iconst 0, 1) := by decide +kernel
theorem dX6_storesAcross_21 : decode cX6_storesAcross 21 = .ok (.istore 6, 2) := by decide +kernel
theorem dX6_storesAcross_23 : decode cX6_storesAcross 23 = .ok (.iload 6, 2) := by decide +kernel
theorem dX6_storesAcross_25 : decode cX6_storesAcross 25 = .ok (.aload_n 0, 1) := by decide +kernel
theorem dX6_storesAcross_26 : decode cX6_storesAcross 26 = .ok (.getfield 30, 3) := by decide +kernel
theorem dX6_storesAcross_29 : decode cX6_storesAcross 29 = .ok (.getfield 119, 3) := by decide +kernel
theorem dX6_storesAcross_32 : decode cX6_storesAcross 32 = .ok (.if_icmp .ge 104, 3) := by decide +kernel
theorem dX6_storesAcross_35 : decode cX6_storesAcross 35 = .ok (.aload_n 0, 1) := by decide +kernel
theorem dX6_storesAcross_36 : decode cX6_storesAcross 36 = .ok (.getfield 30, 3) := by decide +kernel
theorem dX6_storesAcross_39 : decode cX6_storesAcross 39 = .ok (.getfield 122, 3) := by decide +kernel
theorem dX6_storesAcross_42 : decode cX6_storesAcross 42 = .ok (.iload 6, 2) := by decide +kernel
theorem dX6_storesAcross_44 : decode cX6_storesAcross 44 = .ok (.aaload, 1) := by decide +kernel
theorem dX6_storesAcross_45 : decode cX6_storesAcross 45 = .ok (.astore 7, 2) := by decide +kernel
theorem dX6_storesAcross_47 : decode cX6_storesAcross 47 = .ok (.aload_n 0, 1) := by decide +kernel
theorem dX6_storesAcross_48 : decode cX6_storesAcross 48 = .ok (.getfield 15, 3) := by decide +kernel
theorem dX6_storesAcross_51 : decode cX6_storesAcross 51 = .ok (.aload 7, 2) := by decide +kernel
theorem dX6_storesAcross_53 : decode cX6_storesAcross 53 = .ok (.getfield 89, 3) := by decide +kernel
theorem dX6_storesAcross_56 : decode cX6_storesAcross 56 = .ok (.getfield 95, 3) := by decide +kernel
theorem dX6_storesAcross_59 : decode cX6_storesAcross 59 = .ok (.iaload, 1) := by decide +kernel
theorem dX6_storesAcross_60 : decode cX6_storesAcross 60 = .ok (.istore 8, 2) := by decide +kernel
theorem dX6_storesAcross_62 : decode cX6_storesAcross 62 = .ok (.aload_n 0, 1) := by decide +kernel
theorem dX6_storesAcross_63 : decode cX6_storesAcross 63 = .ok (.getfield 15, 3) := by decide +kernel
theorem dX6_storesAcross_66 : decode cX6_storesAcross 66 = .ok (.aload 7, 2) := by decide +kernel
theorem dX6_storesAcross_68 : decode cX6_storesAcross 68 = .ok (.getfield 126, 3) := by decide +kernel
theorem dX6_storesAcross_71 : decode cX6_storesAcross 71 = .ok (.getfield 95, 3) := by decide +kernel
theorem dX6_storesAcross_74 : decode cX6_storesAcross 74 = .ok (.iaload, 1) := by decide +kernel
theorem dX6_storesAcross_75 : decode cX6_storesAcross 75 = .ok (.istore 9, 2) := by decide +kernel
theorem dX6_storesAcross_77 : decode cX6_storesAcross 77 = .ok (.iload 8, 2) := by decide +kernel
theorem dX6_storesAcross_79 : decode cX6_storesAcross 79 = .ok (.iload_n 1, 1) := by decide +kernel
theorem dX6_storesAcross_80 : decode cX6_storesAcross 80 = .ok (.if_icmp .lt 50, 3) := by decide +kernel
theorem dX6_storesAcross_83 : decode cX6_storesAcross 83 = .ok (.iload 8, 2) := by decide +kernel
theorem dX6_storesAcross_85 : decode cX6_storesAcross 85 = .ok (.iload_n 2, 1) := by decide +kernel
theorem dX6_storesAcross_86 : decode cX6_storesAcross 86 = .ok (.if_icmp .gt 44, 3) := by decide +kernel
theorem dX6_storesAcross_89 : decode cX6_storesAcross 89 = .ok (.iload 9, 2) := by decide +kernel
theorem dX6_storesAcross_91 : decode cX6_storesAcross 91 = .ok (.iload_n 2, 1) := by decide +kernel
theorem dX6_storesAcross_92 : decode cX6_storesAcross 92 = .ok (.if_icmp .le 38, 3) := by decide +kernel
theorem dX6_storesAcross_95 : decode cX6_storesAcross 95 = .ok (.iload 9, 2) := by decide +kernel
theorem dX6_storesAcross_97 : decode cX6_storesAcross 97 = .ok (.iload_n 3, 1) := by decide +kernel
theorem dX6_storesAcross_98 : decode cX6_storesAcross 98 = .ok (.if_icmp .gt 32, 3) := by decide +kernel
theorem dX6_storesAcross_101 : decode cX6_storesAcross 101 = .ok (.iload 5, 2) := by decide +kernel
theorem dX6_storesAcross_103 : decode cX6_storesAcross 103 = .ok (.aload 7, 2) := by decide +kernel
theorem dX6_storesAcross_105 : decode cX6_storesAcross 105 = .ok (.getfield 89, 3) := by decide +kernel
theorem dX6_storesAcross_108 : decode cX6_storesAcross 108 = .ok (.getfield 101, 3) := by decide +kernel
theorem dX6_storesAcross_111 : decode cX6_storesAcross 111 = .ok (.aload 7, 2) := by decide +kernel
theorem dX6_storesAcross_113 : decode cX6_storesAcross 113 = .ok (.iconst 0, 1) := by decide +kernel
theorem dX6_storesAcross_114 : decode cX6_storesAcross 114 = .ok (.invokevirtual 129, 3) := by decide +kernel
theorem dX6_storesAcross_117 : decode cX6_storesAcross 117 = .ok (.imul, 1) := by decide +kernel
theorem dX6_storesAcross_118 : decode cX6_storesAcross 118 = .ok (.iload 4, 2) := by decide +kernel
theorem dX6_storesAcross_120 : decode cX6_storesAcross 120 = .ok (.idiv, 1) := by decide +kernel
theorem dX6_storesAcross_121 : decode cX6_storesAcross 121 = .ok (.aload 7, 2) := by decide +kernel
theorem dX6_storesAcross_123 : decode cX6_storesAcross 123 = .ok (.getfield 133, 3) := by decide +kernel
theorem dX6_storesAcross_126 : decode cX6_storesAcross 126 = .ok (.iadd, 1) := by decide +kernel
theorem dX6_storesAcross_127 : decode cX6_storesAcross 127 = .ok (.iadd, 1) := by decide +kernel
theorem dX6_storesAcross_128 : decode cX6_storesAcross 128 = .ok (.istore 5, 2) := by decide +kernel
theorem dX6_storesAcross_130 : decode cX6_storesAcross 130 = .ok (.iinc 6 1, 3) := by decide +kernel
theorem dX6_storesAcross_133 : decode cX6_storesAcross 133 = .ok (.goto (-110), 3) := by decide +kernel
theorem dX6_storesAcross_136 : decode cX6_storesAcross 136 = .ok (.iload 5, 2) := by decide +kernel
theorem dX6_storesAcross_138 : decode cX6_storesAcross 138 = .ok (.ireturn, 1) := by decide +kernel
theorem dX6_timesWithin_0 : decode cX6_timesWithin 0 = .ok (.aload_n 0, 1) := by decide +kernel
theorem dX6_timesWithin_1 : decode cX6_timesWithin 1 = .ok (.getfield 18, 3) := by decide +kernel
theorem dX6_timesWithin_4 : decode cX6_timesWithin 4 = .ok (.iload_n 1, 1) := by decide +kernel
theorem dX6_timesWithin_5 : decode cX6_timesWithin 5 = .ok (.bipush 12, 2) := by decide +kernel
theorem dX6_timesWithin_7 : decode cX6_timesWithin 7 = .ok (.imul, 1) := by decide +kernel
theorem dX6_timesWithin_8 : decode cX6_timesWithin 8 = .ok (.iload_n 2, 1) := by decide +kernel
theorem dX6_timesWithin_9 : decode cX6_timesWithin 9 = .ok (.iadd, 1) := by decide +kernel
theorem dX6_timesWithin_10 : decode cX6_timesWithin 10 = .ok (.iaload, 1) := by decide +kernel
theorem dX6_timesWithin_11 : decode cX6_timesWithin 11 = .ok (.iload_n 3, 1) := by decide +kernel
theorem dX6_timesWithin_12 : decode cX6_timesWithin 12 = .ok (.iconst 1, 1) := by decide +kernel
theorem dX6_timesWithin_13 : decode cX6_timesWithin 13 = .ok (.invokestatic 113, 3) := by decide +kernel
theorem dX6_timesWithin_16 : decode cX6_timesWithin 16 = .ok (.idiv, 1) := by decide +kernel
theorem dX6_timesWithin_17 : decode cX6_timesWithin 17 = .ok (.ireturn, 1) := by decide +kernel
theorem dX6_writeRow_0 : decode cX6_writeRow 0 = .ok (.iload 4, 2) := by decide +kernel
theorem dX6_writeRow_2 : decode cX6_writeRow 2 = .ok (.bipush 12, 2) := by decide +kernel
theorem dX6_writeRow_4 : decode cX6_writeRow 4 = .ok (.if_icmp .le 4, 3) := by decide +kernel
theorem dX6_writeRow_7 : decode cX6_writeRow 7 = .ok (.return_, 1) := by decide +kernel
theorem dX6_writeRow_8 : decode cX6_writeRow 8 = .ok (.aload_n 0, 1) := by decide +kernel
theorem dX6_writeRow_9 : decode cX6_writeRow 9 = .ok (.iload_n 1, 1) := by decide +kernel
theorem dX6_writeRow_10 : decode cX6_writeRow 10 = .ok (.iload_n 2, 1) := by decide +kernel
theorem dX6_writeRow_11 : decode cX6_writeRow 11 = .ok (.iload_n 3, 1) := by decide +kernel
theorem dX6_writeRow_12 : decode cX6_writeRow 12 = .ok (.invokevirtual 136, 3) := by decide +kernel
theorem dX6_writeRow_15 : decode cX6_writeRow 15 = .ok (.istore 5, 2) := by decide +kernel
theorem dX6_writeRow_17 : decode cX6_writeRow 17 = .ok (.iload 5, 2) := by decide +kernel
theorem dX6_writeRow_19 : decode cX6_writeRow 19 = .ok (.iconst 1, 1) := by decide +kernel
theorem dX6_writeRow_20 : decode cX6_writeRow 20 = .ok (.if_icmp .le 11, 3) := by decide +kernel
theorem dX6_writeRow_23 : decode cX6_writeRow 23 = .ok (.aload_n 0, 1) := by decide +kernel
theorem dX6_writeRow_24 : decode cX6_writeRow 24 = .ok (.iload 5, 2) := by decide +kernel
theorem dX6_writeRow_26 : decode cX6_writeRow 26 = .ok (.iconst 1, 1) := by decide +kernel
theorem dX6_writeRow_27 : decode cX6_writeRow 27 = .ok (.iadd, 1) := by decide +kernel
theorem dX6_writeRow_28 : decode cX6_writeRow 28 = .ok (.invokevirtual 139, 3) := by decide +kernel
theorem dX6_writeRow_31 : decode cX6_writeRow 31 = .ok (.iload_n 1, 1) := by decide +kernel
theorem dX6_writeRow_32 : decode cX6_writeRow 32 = .ok (.iload_n 2, 1) := by decide +kernel
theorem dX6_writeRow_33 : decode cX6_writeRow 33 = .ok (.if_icmp .ne 18, 3) := by decide +kernel
theorem dX6_writeRow_36 : decode cX6_writeRow 36 = .ok (.aload_n 0, 1) := by decide +kernel
theorem dX6_writeRow_37 : decode cX6_writeRow 37 = .ok (.iconst (-1), 1) := by decide +kernel
theorem dX6_writeRow_38 : decode cX6_writeRow 38 = .ok (.aload_n 0, 1) := by decide +kernel
theorem dX6_writeRow_39 : decode cX6_writeRow 39 = .ok (.getfield 9, 3) := by decide +kernel
theorem dX6_writeRow_42 : decode cX6_writeRow 42 = .ok (.iload_n 1, 1) := by decide +kernel
theorem dX6_writeRow_43 : decode cX6_writeRow 43 = .ok (.iaload, 1) := by decide +kernel
theorem dX6_writeRow_44 : decode cX6_writeRow 44 = .ok (.isub, 1) := by decide +kernel
theorem dX6_writeRow_45 : decode cX6_writeRow 45 = .ok (.invokevirtual 139, 3) := by decide +kernel
theorem dX6_writeRow_48 : decode cX6_writeRow 48 = .ok (.goto 48, 3) := by decide +kernel
theorem dX6_writeRow_51 : decode cX6_writeRow 51 = .ok (.aload_n 0, 1) := by decide +kernel
theorem dX6_writeRow_52 : decode cX6_writeRow 52 = .ok (.getfield 24, 3) := by decide +kernel
theorem dX6_writeRow_55 : decode cX6_writeRow 55 = .ok (.iload_n 1, 1) := by decide +kernel
theorem dX6_writeRow_56 : decode cX6_writeRow 56 = .ok (.bipush 12, 2) := by decide +kernel
theorem dX6_writeRow_58 : decode cX6_writeRow 58 = .ok (.imul, 1) := by decide +kernel
theorem dX6_writeRow_59 : decode cX6_writeRow 59 = .ok (.iload_n 2, 1) := by decide +kernel
theorem dX6_writeRow_60 : decode cX6_writeRow 60 = .ok (.iadd, 1) := by decide +kernel
theorem dX6_writeRow_61 : decode cX6_writeRow 61 = .ok (.iaload, 1) := by decide +kernel
theorem dX6_writeRow_62 : decode cX6_writeRow 62 = .ok (.istore 6, 2) := by decide +kernel
theorem dX6_writeRow_64 : decode cX6_writeRow 64 = .ok (.aload_n 0, 1) := by decide +kernel
theorem dX6_writeRow_65 : decode cX6_writeRow 65 = .ok (.iload_n 1, 1) := by decide +kernel
theorem dX6_writeRow_66 : decode cX6_writeRow 66 = .ok (.iload 6, 2) := by decide +kernel
theorem dX6_writeRow_68 : decode cX6_writeRow 68 = .ok (.iload_n 3, 1) := by decide +kernel
theorem dX6_writeRow_69 : decode cX6_writeRow 69 = .ok (.iload 5, 2) := by decide +kernel
theorem dX6_writeRow_71 : decode cX6_writeRow 71 = .ok (.imul, 1) := by decide +kernel
theorem dX6_writeRow_72 : decode cX6_writeRow 72 = .ok (.iload 4, 2) := by decide +kernel
theorem dX6_writeRow_74 : decode cX6_writeRow 74 = .ok (.iconst 1, 1) := by decide +kernel
theorem dX6_writeRow_75 : decode cX6_writeRow 75 = .ok (.iadd, 1) := by decide +kernel
theorem dX6_writeRow_76 : decode cX6_writeRow 76 = .ok (.invokevirtual 54, 3) := by decide +kernel
theorem dX6_writeRow_79 : decode cX6_writeRow 79 = .ok (.aload_n 0, 1) := by decide +kernel
theorem dX6_writeRow_80 : decode cX6_writeRow 80 = .ok (.iload 6, 2) := by decide +kernel
theorem dX6_writeRow_82 : decode cX6_writeRow 82 = .ok (.iconst 1, 1) := by decide +kernel
theorem dX6_writeRow_83 : decode cX6_writeRow 83 = .ok (.iadd, 1) := by decide +kernel
theorem dX6_writeRow_84 : decode cX6_writeRow 84 = .ok (.iload_n 2, 1) := by decide +kernel
theorem dX6_writeRow_85 : decode cX6_writeRow 85 = .ok (.iload_n 3, 1) := by decide +kernel
theorem dX6_writeRow_86 : decode cX6_writeRow 86 = .ok (.iload 5, 2) := by decide +kernel
theorem dX6_writeRow_88 : decode cX6_writeRow 88 = .ok (.imul, 1) := by decide +kernel
theorem dX6_writeRow_89 : decode cX6_writeRow 89 = .ok (.iload 4, 2) := by decide +kernel
theorem dX6_writeRow_91 : decode cX6_writeRow 91 = .ok (.iconst 1, 1) := by decide +kernel
theorem dX6_writeRow_92 : decode cX6_writeRow 92 = .ok (.iadd, 1) := by decide +kernel
theorem dX6_writeRow_93 : decode cX6_writeRow 93 = .ok (.invokevirtual 54, 3) := by decide +kernel
theorem dX6_writeRow_96 : decode cX6_writeRow 96 = .ok (.iload 5, 2) := by decide +kernel
theorem dX6_writeRow_98 : decode cX6_writeRow 98 = .ok (.iconst 1, 1) := by decide +kernel
theorem dX6_writeRow_99 : decode cX6_writeRow 99 = .ok (.if_icmp .le 8, 3) := by decide +kernel
theorem dX6_writeRow_102 : decode cX6_writeRow 102 = .ok (.aload_n 0, 1) := by decide +kernel
theorem dX6_writeRow_103 : decode cX6_writeRow 103 = .ok (.iconst 0, 1) := by decide +kernel
theorem dX6_writeRow_104 : decode cX6_writeRow 104 = .ok (.invokevirtual 139, 3) := by decide +kernel
theorem dX6_writeRow_107 : decode cX6_writeRow 107 = .ok (.return_, 1) := by decide +kernel
theorem dX6_writeItem_0 : decode cX6_writeItem 0 = .ok (.aload_n 0, 1) := by decide +kernel
theorem dX6_writeItem_1 : decode cX6_writeItem 1 = .ok (.getfield 34, 3) := by decide +kernel
theorem dX6_writeItem_4 : decode cX6_writeItem 4 = .ok (.aload_n 0, 1) := by decide +kernel
theorem dX6_writeItem_5 : decode cX6_writeItem 5 = .ok (.getfield 27, 3) := by decide +kernel
theorem dX6_writeItem_8 : decode cX6_writeItem 8 = .ok (.arraylength, 1) := by decide +kernel
theorem dX6_writeItem_9 : decode cX6_writeItem 9 = .ok (.if_icmp .ge 23, 3) := by decide +kernel
theorem dX6_writeItem_12 : decode cX6_writeItem 12 = .ok (.aload_n 0, 1) := by decide +kernel
theorem dX6_writeItem_13 : decode cX6_writeItem 13 = .ok (.getfield 27, 3) := by decide +kernel
theorem dX6_writeItem_16 : decode cX6_writeItem 16 = .ok (.aload_n 0, 1) := by decide +kernel
theorem dX6_writeItem_17 : decode cX6_writeItem 17 = .ok (.getfield 34, 3) := by decide +kernel
theorem dX6_writeItem_20 : decode cX6_writeItem 20 = .ok (.iload_n 1, 1) := by decide +kernel
theorem dX6_writeItem_21 : decode cX6_writeItem 21 = .ok (.iastore, 1) := by decide +kernel
theorem dX6_writeItem_22 : decode cX6_writeItem 22 = .ok (.aload_n 0, 1) := by decide +kernel
theorem dX6_writeItem_23 : decode cX6_writeItem 23 = .ok (.dup, 1) := by decide +kernel
theorem dX6_writeItem_24 : decode cX6_writeItem 24 = .ok (.getfield 34, 3) := by decide +kernel
theorem dX6_writeItem_27 : decode cX6_writeItem 27 = .ok (.iconst 1, 1) := by decide +kernel
theorem dX6_writeItem_28 : decode cX6_writeItem 28 = .ok (.iadd, 1) := by decide +kernel
theorem dX6_writeItem_29 : decode cX6_writeItem 29 = .ok (.putfield 34, 3) := by decide +kernel
theorem dX6_writeItem_32 : decode cX6_writeItem 32 = .ok (.return_, 1) := by decide +kernel
theorem dX6_unrollRow_0 : decode cX6_unrollRow 0 = .ok (.iload 5, 2) := by decide +kernel
theorem dX6_unrollRow_2 : decode cX6_unrollRow 2 = .ok (.bipush 12, 2) := by decide +kernel
theorem dX6_unrollRow_4 : decode cX6_unrollRow 4 = .ok (.if_icmp .le 4, 3) := by decide +kernel
theorem dX6_unrollRow_7 : decode cX6_unrollRow 7 = .ok (.return_, 1) := by decide +kernel
theorem dX6_unrollRow_8 : decode cX6_unrollRow 8 = .ok (.aload_n 0, 1) := by decide +kernel
theorem dX6_unrollRow_9 : decode cX6_unrollRow 9 = .ok (.iload_n 2, 1) := by decide +kernel
theorem dX6_unrollRow_10 : decode cX6_unrollRow 10 = .ok (.iload_n 3, 1) := by decide +kernel
theorem dX6_unrollRow_11 : decode cX6_unrollRow 11 = .ok (.iload 4, 2) := by decide +kernel
theorem dX6_unrollRow_13 : decode cX6_unrollRow 13 = .ok (.invokevirtual 136, 3) := by decide +kernel
theorem dX6_unrollRow_16 : decode cX6_unrollRow 16 = .ok (.istore 6, 2) := by decide +kernel
theorem dX6_unrollRow_18 : decode cX6_unrollRow 18 = .ok (.aload_n 0, 1) := by decide +kernel
theorem dX6_unrollRow_19 : decode cX6_unrollRow 19 = .ok (.getfield 24, 3) := by decide +kernel
theorem dX6_unrollRow_22 : decode cX6_unrollRow 22 = .ok (.iload_n 2, 1) := by decide +kernel
theorem dX6_unrollRow_23 : decode cX6_unrollRow 23 = .ok (.bipush 12, 2) := by decide +kernel
theorem dX6_unrollRow_25 : decode cX6_unrollRow 25 = .ok (.imul, 1) := by decide +kernel
theorem dX6_unrollRow_26 : decode cX6_unrollRow 26 = .ok (.iload_n 3, 1) := by decide +kernel
theorem dX6_unrollRow_27 : decode cX6_unrollRow 27 = .ok (.iadd, 1) := by decide +kernel
theorem dX6_unrollRow_28 : decode cX6_unrollRow 28 = .ok (.iaload, 1) := by decide +kernel
theorem dX6_unrollRow_29 : decode cX6_unrollRow 29 = .ok (.istore 7, 2) := by decide +kernel
theorem dX6_unrollRow_31 : decode cX6_unrollRow 31 = .ok (.iconst 0, 1) := by decide +kernel
theorem dX6_unrollRow_32 : decode cX6_unrollRow 32 = .ok (.istore 8, 2) := by decide +kernel
theorem dX6_unrollRow_34 : decode cX6_unrollRow 34 = .ok (.iload 8, 2) := by decide +kernel
theorem dX6_unrollRow_36 : decode cX6_unrollRow 36 = .ok (.iload 6, 2) := by decide +kernel
theorem dX6_unrollRow_38 : decode cX6_unrollRow 38 = .ok (.if_icmp .ge 84, 3) := by decide +kernel
theorem dX6_unrollRow_41 : decode cX6_unrollRow 41 = .ok (.iload_n 2, 1) := by decide +kernel
theorem dX6_unrollRow_42 : decode cX6_unrollRow 42 = .ok (.iload_n 3, 1) := by decide +kernel
theorem dX6_unrollRow_43 : decode cX6_unrollRow 43 = .ok (.if_icmp .ge 42, 3) := by decide +kernel
theorem dX6_unrollRow_46 : decode cX6_unrollRow 46 = .ok (.aload_n 0, 1) := by decide +kernel
theorem dX6_unrollRow_47 : decode cX6_unrollRow 47 = .ok (.aload_n 1, 1) := by decide +kernel
theorem dX6_unrollRow_48 : decode cX6_unrollRow 48 = .ok (.iload_n 2, 1) := by decide +kernel
theorem dX6_unrollRow_49 : decode cX6_unrollRow 49 = .ok (.iload 7, 2) := by decide +kernel
theorem dX6_unrollRow_51 : decode cX6_unrollRow 51 = .ok (.iload 4, 2) := by decide +kernel
theorem dX6_unrollRow_53 : decode cX6_unrollRow 53 = .ok (.iload 6, 2) := by decide +kernel
theorem dX6_unrollRow_55 : decode cX6_unrollRow 55 = .ok (.imul, 1) := by decide +kernel
theorem dX6_unrollRow_56 : decode cX6_unrollRow 56 = .ok (.iload 5, 2) := by decide +kernel
theorem dX6_unrollRow_58 : decode cX6_unrollRow 58 = .ok (.iconst 1, 1) := by decide +kernel
theorem dX6_unrollRow_59 : decode cX6_unrollRow 59 = .ok (.iadd, 1) := by decide +kernel
theorem dX6_unrollRow_60 : decode cX6_unrollRow 60 = .ok (.invokevirtual 61, 3) := by decide +kernel
theorem dX6_unrollRow_63 : decode cX6_unrollRow 63 = .ok (.aload_n 0, 1) := by decide +kernel
theorem dX6_unrollRow_64 : decode cX6_unrollRow 64 = .ok (.aload_n 1, 1) := by decide +kernel
theorem dX6_unrollRow_65 : decode cX6_unrollRow 65 = .ok (.iload 7, 2) := by decide +kernel
theorem dX6_unrollRow_67 : decode cX6_unrollRow 67 = .ok (.iconst 1, 1) := by decide +kernel
theorem dX6_unrollRow_68 : decode cX6_unrollRow 68 = .ok (.iadd, 1) := by decide +kernel
theorem dX6_unrollRow_69 : decode cX6_unrollRow 69 = .ok (.iload_n 3, 1) := by decide +kernel
theorem dX6_unrollRow_70 : decode cX6_unrollRow 70 = .ok (.iload 4, 2) := by decide +kernel
theorem dX6_unrollRow_72 : decode cX6_unrollRow 72 = .ok (.iload 6, 2) := by decide +kernel
theorem dX6_unrollRow_74 : decode cX6_unrollRow 74 = .ok (.imul, 1) := by decide +kernel
theorem dX6_unrollRow_75 : decode cX6_unrollRow 75 = .ok (.iload 5, 2) := by decide +kernel
theorem dX6_unrollRow_77 : decode cX6_unrollRow 77 = .ok (.iconst 1, 1) := by decide +kernel
theorem dX6_unrollRow_78 : decode cX6_unrollRow 78 = .ok (.iadd, 1) := by decide +kernel
theorem dX6_unrollRow_79 : decode cX6_unrollRow 79 = .ok (.invokevirtual 61, 3) := by decide +kernel
theorem dX6_unrollRow_82 : decode cX6_unrollRow 82 = .ok (.goto 34, 3) := by decide +kernel
theorem dX6_unrollRow_85 : decode cX6_unrollRow 85 = .ok (.aload_n 0, 1) := by decide +kernel
theorem dX6_unrollRow_86 : decode cX6_unrollRow 86 = .ok (.getfield 58, 3) := by decide +kernel
theorem dX6_unrollRow_89 : decode cX6_unrollRow 89 = .ok (.aload_n 1, 1) := by decide +kernel
theorem dX6_unrollRow_90 : decode cX6_unrollRow 90 = .ok (.arraylength, 1) := by decide +kernel
theorem dX6_unrollRow_91 : decode cX6_unrollRow 91 = .ok (.if_icmp .ge 25, 3) := by decide +kernel
theorem dX6_unrollRow_94 : decode cX6_unrollRow 94 = .ok (.aload_n 1, 1) := by decide +kernel
theorem dX6_unrollRow_95 : decode cX6_unrollRow 95 = .ok (.aload_n 0, 1) := by decide +kernel
theorem dX6_unrollRow_96 : decode cX6_unrollRow 96 = .ok (.getfield 58, 3) := by decide +kernel
theorem dX6_unrollRow_99 : decode cX6_unrollRow 99 = .ok (.aload_n 0, 1) := by decide +kernel
theorem dX6_unrollRow_100 : decode cX6_unrollRow 100 = .ok (.getfield 9, 3) := by decide +kernel
theorem dX6_unrollRow_103 : decode cX6_unrollRow 103 = .ok (.iload_n 2, 1) := by decide +kernel
theorem dX6_unrollRow_104 : decode cX6_unrollRow 104 = .ok (.iaload, 1) := by decide +kernel
theorem dX6_unrollRow_105 : decode cX6_unrollRow 105 = .ok (.iastore, 1) := by decide +kernel
theorem dX6_unrollRow_106 : decode cX6_unrollRow 106 = .ok (.aload_n 0, 1) := by decide +kernel
theorem dX6_unrollRow_107 : decode cX6_unrollRow 107 = .ok (.dup, 1) := by decide +kernel
theorem dX6_unrollRow_108 : decode cX6_unrollRow 108 = .ok (.getfield 58, 3) := by decide +kernel
theorem dX6_unrollRow_111 : decode cX6_unrollRow 111 = .ok (.iconst 1, 1) := by decide +kernel
theorem dX6_unrollRow_112 : decode cX6_unrollRow 112 = .ok (.iadd, 1) := by decide +kernel
theorem dX6_unrollRow_113 : decode cX6_unrollRow 113 = .ok (.putfield 58, 3) := by decide +kernel
theorem dX6_unrollRow_116 : decode cX6_unrollRow 116 = .ok (.iinc 8 1, 3) := by decide +kernel
theorem dX6_unrollRow_119 : decode cX6_unrollRow 119 = .ok (.goto (-85), 3) := by decide +kernel
theorem dX6_unrollRow_122 : decode cX6_unrollRow 122 = .ok (.return_, 1) := by decide +kernel
theorem dX7_init_0 : decode cX7_init 0 = .ok (.aload_n 0, 1) := by decide +kernel
theorem dX7_init_1 : decode cX7_init 1 = .ok (.invokespecial 3, 3) := by decide +kernel
theorem dX7_init_4 : decode cX7_init 4 = .ok (.aload_n 0, 1) := by decide +kernel
theorem dX7_init_5 : decode cX7_init 5 = .ok (.iconst 1, 1) := by decide +kernel
theorem dX7_init_6 : decode cX7_init 6 = .ok (.putfield 9, 3) := by decide +kernel
theorem dX7_init_9 : decode cX7_init 9 = .ok (.aload_n 0, 1) := by decide +kernel
theorem dX7_init_10 : decode cX7_init 10 = .ok (.iload_n 1, 1) := by decide +kernel
theorem dX7_init_11 : decode cX7_init 11 = .ok (.putfield 15, 3) := by decide +kernel
theorem dX7_init_14 : decode cX7_init 14 = .ok (.aload_n 0, 1) := by decide +kernel
theorem dX7_init_15 : decode cX7_init 15 = .ok (.iload_n 2, 1) := by decide +kernel
theorem dX7_init_16 : decode cX7_init 16 = .ok (.putfield 18, 3) := by decide +kernel
theorem dX7_init_19 : decode cX7_init 19 = .ok (.aload_n 0, 1) := by decide +kernel
theorem dX7_init_20 : decode cX7_init 20 = .ok (.lload_n 3, 1) := by decide +kernel
theorem dX7_init_21 : decode cX7_init 21 = .ok (.putfield 21, 3) := by decide +kernel
theorem dX7_init_24 : decode cX7_init 24 = .ok (.aload_n 0, 1) := by decide +kernel
theorem dX7_init_25 : decode cX7_init 25 = .ok (.iload_n 2, 1) := by decide +kernel
theorem dX7_init_26 : decode cX7_init 26 = .ok (.iconst 4, 1) := by decide +kernel
theorem dX7_init_27 : decode cX7_init 27 = .ok (.if_icmp .ne 12, 3) := by decide +kernel
theorem dX7_init_30 : decode cX7_init 30 = .ok (.iload 5, 2) := by decide +kernel
theorem dX7_init_32 : decode cX7_init 32 = .ok (.iconst 1, 1) := by decide +kernel
theorem dX7_init_33 : decode cX7_init 33 = .ok (.invokestatic 25, 3) := by decide +kernel
theorem dX7_init_36 : decode cX7_init 36 = .ok (.goto 4, 3) := by decide +kernel
theorem dX7_init_39 : decode cX7_init 39 = .ok (.iconst 1, 1) := by decide +kernel
theorem dX7_init_40 : decode cX7_init 40 = .ok (.putfield 31, 3) := by decide +kernel
theorem dX7_init_43 : decode cX7_init 43 = .ok (.iload_n 2, 1) := by decide +kernel
theorem dX7_init_44 : decode cX7_init 44 = .ok (.iconst 5, 1) := by decide +kernel
theorem dX7_init_45 : decode cX7_init 45 = .ok (.if_icmp .ne 27, 3) := by decide +kernel
theorem dX7_init_48 : decode cX7_init 48 = .ok (.aload_n 0, 1) := by decide +kernel
theorem dX7_init_49 : decode cX7_init 49 = .ok (.iload 5, 2) := by decide +kernel
theorem dX7_init_51 : decode cX7_init 51 = .ok (.iconst 0, 1) := by decide +kernel
theorem dX7_init_52 : decode cX7_init 52 = .ok (.invokestatic 25, 3) := by decide +kernel
theorem dX7_init_55 : decode cX7_init 55 = .ok (.newarray .long, 2) := by decide +kernel
theorem dX7_init_57 : decode cX7_init 57 = .ok (.putfield 34, 3) := by decide +kernel
theorem dX7_init_60 : decode cX7_init 60 = .ok (.aload_n 0, 1) := by decide +kernel
theorem dX7_init_61 : decode cX7_init 61 = .ok (.iload 5, 2) := by decide +kernel
theorem dX7_init_63 : decode cX7_init 63 = .ok (.iconst 0, 1) := by decide +kernel
theorem dX7_init_64 : decode cX7_init 64 = .ok (.invokestatic 25, 3) := by decide +kernel
theorem dX7_init_67 : decode cX7_init 67 = .ok (.newarray .long, 2) := by decide +kernel
theorem dX7_init_69 : decode cX7_init 69 = .ok (.putfield 38, 3) := by decide +kernel
theorem dX7_init_72 : decode cX7_init 72 = .ok (.return_, 1) := by decide +kernel
theorem dX7_phaseBehind_0 : decode cX7_phaseBehind 0 = .ok (.iload_n 1, 1) := by decide +kernel
theorem dX7_phaseBehind_1 : decode cX7_phaseBehind 1 = .ok (.iconst 1, 1) := by decide +kernel
theorem dX7_phaseBehind_2 : decode cX7_phaseBehind 2 = .ok (.iadd, 1) := by decide +kernel
theorem dX7_phaseBehind_3 : decode cX7_phaseBehind 3 = .ok (.aload_n 0, 1) := by decide +kernel
theorem dX7_phaseBehind_4 : decode cX7_phaseBehind 4 = .ok (.getfield 31, 3) := by decide +kernel
theorem dX7_phaseBehind_7 : decode cX7_phaseBehind 7 = .ok (.if_icmp .ge 9, 3) := by decide +kernel
theorem dX7_phaseBehind_10 : decode cX7_phaseBehind 10 = .ok (.iload_n 1, 1) := by decide +kernel
theorem dX7_phaseBehind_11 : decode cX7_phaseBehind 11 = .ok (.iconst 1, 1) := by decide +kernel
theorem dX7_phaseBehind_12 : decode cX7_phaseBehind 12 = .ok (.iadd, 1) := by decide +kernel
theorem dX7_phaseBehind_13 : decode cX7_phaseBehind 13 = .ok (.goto 4, 3) := by decide +kernel
theorem dX7_phaseBehind_16 : decode cX7_phaseBehind 16 = .ok (.iconst 0, 1) := by decide +kernel
theorem dX7_phaseBehind_17 : decode cX7_phaseBehind 17 = .ok (.ireturn, 1) := by decide +kernel
theorem dX7_phaseAhead_0 : decode cX7_phaseAhead 0 = .ok (.iload_n 1, 1) := by decide +kernel
theorem dX7_phaseAhead_1 : decode cX7_phaseAhead 1 = .ok (.ifCond .le 9, 3) := by decide +kernel
theorem dX7_phaseAhead_4 : decode cX7_phaseAhead 4 = .ok (.iload_n 1, 1) := by decide +kernel
theorem dX7_phaseAhead_5 : decode cX7_phaseAhead 5 = .ok (.iconst 1, 1) := by decide +kernel
theorem dX7_phaseAhead_6 : decode cX7_phaseAhead 6 = .ok (.isub, 1) := by decide +kernel
theorem dX7_phaseAhead_7 : decode cX7_phaseAhead 7 = .ok (.goto 9, 3) := by decide +kernel
theorem dX7_phaseAhead_10 : decode cX7_phaseAhead 10 = .ok (.aload_n 0, 1) := by decide +kernel
theorem dX7_phaseAhead_11 : decode cX7_phaseAhead 11 = .ok (.getfield 31, 3) := by decide +kernel
theorem dX7_phaseAhead_14 : decode cX7_phaseAhead 14 = .ok (.iconst 1, 1) := by decide +kernel
theorem dX7_phaseAhead_15 : decode cX7_phaseAhead 15 = .ok (.isub, 1) := by decide +kernel
theorem dX7_phaseAhead_16 : decode cX7_phaseAhead 16 = .ok (.ireturn, 1) := by decide +kernel
theorem dX7_toldOf_0 : decode cX7_toldOf 0 = .ok (.iload_n 1, 1) := by decide +kernel
theorem dX7_toldOf_1 : decode cX7_toldOf 1 = .ok (.tableswitch 51 0 3 #[31, 36, 41, 46], 31) := by decide +kernel
theorem dX7_toldOf_32 : decode cX7_toldOf 32 = .ok (.aload_n 0, 1) := by decide +kernel
theorem dX7_toldOf_33 : decode cX7_toldOf 33 = .ok (.getfield 18, 3) := by decide +kernel
theorem dX7_toldOf_36 : decode cX7_toldOf 36 = .ok (.ireturn, 1) := by decide +kernel
theorem dX7_toldOf_37 : decode cX7_toldOf 37 = .ok (.aload_n 0, 1) := by decide +kernel
theorem dX7_toldOf_38 : decode cX7_toldOf 38 = .ok (.getfield 31, 3) := by decide +kernel
theorem dX7_toldOf_41 : decode cX7_toldOf 41 = .ok (.ireturn, 1) := by decide +kernel
theorem dX7_toldOf_42 : decode cX7_toldOf 42 = .ok (.aload_n 0, 1) := by decide +kernel
theorem dX7_toldOf_43 : decode cX7_toldOf 43 = .ok (.getfield 9, 3) := by decide +kernel
theorem dX7_toldOf_46 : decode cX7_toldOf 46 = .ok (.ireturn, 1) := by decide +kernel
theorem dX7_toldOf_47 : decode cX7_toldOf 47 = .ok (.aload_n 0, 1) := by decide +kernel
theorem dX7_toldOf_48 : decode cX7_toldOf 48 = .ok (.getfield 41, 3) := by decide +kernel
theorem dX7_toldOf_51 : decode cX7_toldOf 51 = .ok (.ireturn, 1) := by decide +kernel
theorem dX7_toldOf_52 : decode cX7_toldOf 52 = .ok (.aload_n 0, 1) := by decide +kernel
theorem dX7_toldOf_53 : decode cX7_toldOf 53 = .ok (.getfield 34, 3) := by decide +kernel
theorem dX7_toldOf_56 : decode cX7_toldOf 56 = .ok (.ifnonnull 8, 3) := by decide +kernel
theorem dX7_toldOf_59 : decode cX7_toldOf 59 = .ok (.bipush (-9), 2) := by decide +kernel
theorem dX7_toldOf_61 : decode cX7_toldOf 61 = .ok (.goto 8, 3) := by decide +kernel
theorem dX7_toldOf_64 : decode cX7_toldOf 64 = .ok (.aload_n 0, 1) := by decide +kernel
theorem dX7_toldOf_65 : decode cX7_toldOf 65 = .ok (.getfield 34, 3) := by decide +kernel
theorem dX7_toldOf_68 : decode cX7_toldOf 68 = .ok (.arraylength, 1) := by decide +kernel
theorem dX7_toldOf_69 : decode cX7_toldOf 69 = .ok (.ireturn, 1) := by decide +kernel
theorem dX7_toFirst_0 : decode cX7_toFirst 0 = .ok (.aload_n 0, 1) := by decide +kernel
theorem dX7_toFirst_1 : decode cX7_toFirst 1 = .ok (.iconst 0, 1) := by decide +kernel
theorem dX7_toFirst_2 : decode cX7_toFirst 2 = .ok (.putfield 44, 3) := by decide +kernel
theorem dX7_toFirst_5 : decode cX7_toFirst 5 = .ok (.aload_n 0, 1) := by decide +kernel
theorem dX7_toFirst_6 : decode cX7_toFirst 6 = .ok (.lconst 0, 1) := by decide +kernel
theorem dX7_toFirst_7 : decode cX7_toFirst 7 = .ok (.putfield 47, 3) := by decide +kernel
theorem dX7_toFirst_10 : decode cX7_toFirst 10 = .ok (.aload_n 0, 1) := by decide +kernel
theorem dX7_toFirst_11 : decode cX7_toFirst 11 = .ok (.getfield 34, 3) := by decide +kernel
theorem dX7_toFirst_14 : decode cX7_toFirst 14 = .ok (.ifnull 36, 3) := by decide +kernel
theorem dX7_toFirst_17 : decode cX7_toFirst 17 = .ok (.aload_n 0, 1) := by decide +kernel
theorem dX7_toFirst_18 : decode cX7_toFirst 18 = .ok (.getfield 38, 3) := by decide +kernel
theorem dX7_toFirst_21 : decode cX7_toFirst 21 = .ok (.ifnull 29, 3) := by decide +kernel
theorem dX7_toFirst_24 : decode cX7_toFirst 24 = .ok (.aload_n 0, 1) := by decide +kernel
theorem dX7_toFirst_25 : decode cX7_toFirst 25 = .ok (.getfield 34, 3) := by decide +kernel
theorem dX7_toFirst_28 : decode cX7_toFirst 28 = .ok (.iconst 0, 1) := by decide +kernel
theorem dX7_toFirst_29 : decode cX7_toFirst 29 = .ok (.aload_n 0, 1) := by decide +kernel
theorem dX7_toFirst_30 : decode cX7_toFirst 30 = .ok (.getfield 38, 3) := by decide +kernel
theorem dX7_toFirst_33 : decode cX7_toFirst 33 = .ok (.iconst 0, 1) := by decide +kernel
theorem dX7_toFirst_34 : decode cX7_toFirst 34 = .ok (.aload_n 0, 1) := by decide +kernel
theorem dX7_toFirst_35 : decode cX7_toFirst 35 = .ok (.getfield 34, 3) := by decide +kernel
theorem dX7_toFirst_38 : decode cX7_toFirst 38 = .ok (.arraylength, 1) := by decide +kernel
theorem dX7_toFirst_39 : decode cX7_toFirst 39 = .ok (.aload_n 0, 1) := by decide +kernel
theorem dX7_toFirst_40 : decode cX7_toFirst 40 = .ok (.getfield 38, 3) := by decide +kernel
theorem dX7_toFirst_43 : decode cX7_toFirst 43 = .ok (.arraylength, 1) := by decide +kernel
theorem dX7_toFirst_44 : decode cX7_toFirst 44 = .ok (.invokestatic 50, 3) := by decide +kernel
theorem dX7_toFirst_47 : decode cX7_toFirst 47 = .ok (.invokestatic 53, 3) := by decide +kernel
theorem dX7_toFirst_50 : decode cX7_toFirst 50 = .ok (.return_, 1) := by decide +kernel
theorem dX7_digestFrom_0 : decode cX7_digestFrom 0 = .ok (.iconst 0, 1) := by decide +kernel
theorem dX7_digestFrom_1 : decode cX7_digestFrom 1 = .ok (.istore_n 3, 1) := by decide +kernel
theorem dX7_digestFrom_2 : decode cX7_digestFrom 2 = .ok (.iload_n 3, 1) := by decide +kernel
theorem dX7_digestFrom_3 : decode cX7_digestFrom 3 = .ok (.iconst 4, 1) := by decide +kernel
theorem dX7_digestFrom_4 : decode cX7_digestFrom 4 = .ok (.if_icmp .gt 22, 3) := by decide +kernel
theorem dX7_digestFrom_7 : decode cX7_digestFrom 7 = .ok (.ldc2_w 59, 3) := by decide +kernel
theorem dX7_digestFrom_10 : decode cX7_digestFrom 10 = .ok (.lload_n 1, 1) := by decide +kernel
theorem dX7_digestFrom_11 : decode cX7_digestFrom 11 = .ok (.lmul, 1) := by decide +kernel
theorem dX7_digestFrom_12 : decode cX7_digestFrom 12 = .ok (.aload_n 0, 1) := by decide +kernel
theorem dX7_digestFrom_13 : decode cX7_digestFrom 13 = .ok (.iload_n 3, 1) := by decide +kernel
theorem dX7_digestFrom_14 : decode cX7_digestFrom 14 = .ok (.invokevirtual 61, 3) := by decide +kernel
theorem dX7_digestFrom_17 : decode cX7_digestFrom 17 = .ok (.i2l, 1) := by decide +kernel
theorem dX7_digestFrom_18 : decode cX7_digestFrom 18 = .ok (.ladd, 1) := by decide +kernel
theorem dX7_digestFrom_19 : decode cX7_digestFrom 19 = .ok (.lstore_n 1, 1) := by decide +kernel
theorem dX7_digestFrom_20 : decode cX7_digestFrom 20 = .ok (.iinc 3 1, 3) := by decide +kernel
theorem dX7_digestFrom_23 : decode cX7_digestFrom 23 = .ok (.goto (-21), 3) := by decide +kernel
theorem dX7_digestFrom_26 : decode cX7_digestFrom 26 = .ok (.ldc2_w 59, 3) := by decide +kernel
theorem dX7_digestFrom_29 : decode cX7_digestFrom 29 = .ok (.lload_n 1, 1) := by decide +kernel
theorem dX7_digestFrom_30 : decode cX7_digestFrom 30 = .ok (.lmul, 1) := by decide +kernel
theorem dX7_digestFrom_31 : decode cX7_digestFrom 31 = .ok (.aload_n 0, 1) := by decide +kernel
theorem dX7_digestFrom_32 : decode cX7_digestFrom 32 = .ok (.getfield 44, 3) := by decide +kernel
theorem dX7_digestFrom_35 : decode cX7_digestFrom 35 = .ok (.i2l, 1) := by decide +kernel
theorem dX7_digestFrom_36 : decode cX7_digestFrom 36 = .ok (.ladd, 1) := by decide +kernel
theorem dX7_digestFrom_37 : decode cX7_digestFrom 37 = .ok (.lstore_n 1, 1) := by decide +kernel
theorem dX7_digestFrom_38 : decode cX7_digestFrom 38 = .ok (.ldc2_w 59, 3) := by decide +kernel
theorem dX7_digestFrom_41 : decode cX7_digestFrom 41 = .ok (.lload_n 1, 1) := by decide +kernel
theorem dX7_digestFrom_42 : decode cX7_digestFrom 42 = .ok (.lmul, 1) := by decide +kernel
theorem dX7_digestFrom_43 : decode cX7_digestFrom 43 = .ok (.aload_n 0, 1) := by decide +kernel
theorem dX7_digestFrom_44 : decode cX7_digestFrom 44 = .ok (.getfield 47, 3) := by decide +kernel
theorem dX7_digestFrom_47 : decode cX7_digestFrom 47 = .ok (.ladd, 1) := by decide +kernel
theorem dX7_digestFrom_48 : decode cX7_digestFrom 48 = .ok (.lstore_n 1, 1) := by decide +kernel
theorem dX7_digestFrom_49 : decode cX7_digestFrom 49 = .ok (.aload_n 0, 1) := by decide +kernel
theorem dX7_digestFrom_50 : decode cX7_digestFrom 50 = .ok (.getfield 38, 3) := by decide +kernel
theorem dX7_digestFrom_53 : decode cX7_digestFrom 53 = .ok (.ifnull 43, 3) := by decide +kernel
theorem dX7_digestFrom_56 : decode cX7_digestFrom 56 = .ok (.aload_n 0, 1) := by decide +kernel
theorem dX7_digestFrom_57 : decode cX7_digestFrom 57 = .ok (.getfield 38, 3) := by decide +kernel
theorem dX7_digestFrom_60 : decode cX7_digestFrom 60 = .ok (.astore_n 3, 1) := by decide +kernel
theorem dX7_digestFrom_61 : decode cX7_digestFrom 61 = .ok (.aload_n 3, 1) := by decide +kernel
theorem dX7_digestFrom_62 : decode cX7_digestFrom 62 = .ok (.arraylength, 1) := by decide +kernel
theorem dX7_digestFrom_63 : decode cX7_digestFrom 63 = .ok (.istore 4, 2) := by decide +kernel
theorem dX7_digestFrom_65 : decode cX7_digestFrom 65 = .ok (.iconst 0, 1) := by decide +kernel
theorem dX7_digestFrom_66 : decode cX7_digestFrom 66 = .ok (.istore 5, 2) := by decide +kernel
theorem dX7_digestFrom_68 : decode cX7_digestFrom 68 = .ok (.iload 5, 2) := by decide +kernel
theorem dX7_digestFrom_70 : decode cX7_digestFrom 70 = .ok (.iload 4, 2) := by decide +kernel
theorem dX7_digestFrom_72 : decode cX7_digestFrom 72 = .ok (.if_icmp .ge 24, 3) := by decide +kernel
theorem dX7_digestFrom_75 : decode cX7_digestFrom 75 = .ok (.aload_n 3, 1) := by decide +kernel
theorem dX7_digestFrom_76 : decode cX7_digestFrom 76 = .ok (.iload 5, 2) := by decide +kernel
theorem dX7_digestFrom_78 : decode cX7_digestFrom 78 = .ok (.laload, 1) := by decide +kernel
theorem dX7_digestFrom_79 : decode cX7_digestFrom 79 = .ok (.lstore 6, 2) := by decide +kernel
theorem dX7_digestFrom_81 : decode cX7_digestFrom 81 = .ok (.ldc2_w 59, 3) := by decide +kernel
theorem dX7_digestFrom_84 : decode cX7_digestFrom 84 = .ok (.lload_n 1, 1) := by decide +kernel
theorem dX7_digestFrom_85 : decode cX7_digestFrom 85 = .ok (.lmul, 1) := by decide +kernel
theorem dX7_digestFrom_86 : decode cX7_digestFrom 86 = .ok (.lload 6, 2) := by decide +kernel
theorem dX7_digestFrom_88 : decode cX7_digestFrom 88 = .ok (.ladd, 1) := by decide +kernel
theorem dX7_digestFrom_89 : decode cX7_digestFrom 89 = .ok (.lstore_n 1, 1) := by decide +kernel
theorem dX7_digestFrom_90 : decode cX7_digestFrom 90 = .ok (.iinc 5 1, 3) := by decide +kernel
theorem dX7_digestFrom_93 : decode cX7_digestFrom 93 = .ok (.goto (-25), 3) := by decide +kernel
theorem dX7_digestFrom_96 : decode cX7_digestFrom 96 = .ok (.lload_n 1, 1) := by decide +kernel
theorem dX7_digestFrom_97 : decode cX7_digestFrom 97 = .ok (.lreturn, 1) := by decide +kernel
theorem dX8_init_0 : decode cX8_init 0 = .ok (.aload_n 0, 1) := by decide +kernel
theorem dX8_init_1 : decode cX8_init 1 = .ok (.invokespecial 3, 3) := by decide +kernel
theorem dX8_init_4 : decode cX8_init 4 = .ok (.aload_n 0, 1) := by decide +kernel
theorem dX8_init_5 : decode cX8_init 5 = .ok (.sipush 2000, 3) := by decide +kernel
theorem dX8_init_8 : decode cX8_init 8 = .ok (.newarray .int, 2) := by decide +kernel
theorem dX8_init_10 : decode cX8_init 10 = .ok (.putfield 9, 3) := by decide +kernel
theorem dX8_init_13 : decode cX8_init 13 = .ok (.aload_n 0, 1) := by decide +kernel
theorem dX8_init_14 : decode cX8_init 14 = .ok (.bipush 20, 2) := by decide +kernel
theorem dX8_init_16 : decode cX8_init 16 = .ok (.newarray .int, 2) := by decide +kernel
theorem dX8_init_18 : decode cX8_init 18 = .ok (.putfield 15, 3) := by decide +kernel
theorem dX8_init_21 : decode cX8_init 21 = .ok (.aload_n 0, 1) := by decide +kernel
theorem dX8_init_22 : decode cX8_init 22 = .ok (.iconst 4, 1) := by decide +kernel
theorem dX8_init_23 : decode cX8_init 23 = .ok (.newarray .int, 2) := by decide +kernel
theorem dX8_init_25 : decode cX8_init 25 = .ok (.putfield 18, 3) := by decide +kernel
theorem dX8_init_28 : decode cX8_init 28 = .ok (.aload_n 0, 1) := by decide +kernel
theorem dX8_init_29 : decode cX8_init 29 = .ok (.aload_n 1, 1) := by decide +kernel
theorem dX8_init_30 : decode cX8_init 30 = .ok (.putfield 21, 3) := by decide +kernel
theorem dX8_init_33 : decode cX8_init 33 = .ok (.aload_n 0, 1) := by decide +kernel
theorem dX8_init_34 : decode cX8_init 34 = .ok (.aload_n 2, 1) := by decide +kernel
theorem dX8_init_35 : decode cX8_init 35 = .ok (.putfield 25, 3) := by decide +kernel
theorem dX8_init_38 : decode cX8_init 38 = .ok (.return_, 1) := by decide +kernel
theorem dX8_drop_0 : decode cX8_drop 0 = .ok (.aload_n 0, 1) := by decide +kernel
theorem dX8_drop_1 : decode cX8_drop 1 = .ok (.iconst 0, 1) := by decide +kernel
theorem dX8_drop_2 : decode cX8_drop 2 = .ok (.putfield 29, 3) := by decide +kernel
theorem dX8_drop_5 : decode cX8_drop 5 = .ok (.return_, 1) := by decide +kernel
theorem dX8_has_0 : decode cX8_has 0 = .ok (.iload_n 1, 1) := by decide +kernel
theorem dX8_has_1 : decode cX8_has 1 = .ok (.ifCond .lt 15, 3) := by decide +kernel
theorem dX8_has_4 : decode cX8_has 4 = .ok (.iload_n 1, 1) := by decide +kernel
theorem dX8_has_5 : decode cX8_has 5 = .ok (.aload_n 0, 1) := by decide +kernel
theorem dX8_has_6 : decode cX8_has 6 = .ok (.getfield 29, 3) := by decide +kernel
theorem dX8_has_9 : decode cX8_has 9 = .ok (.if_icmp .ge 7, 3) := by decide +kernel
theorem dX8_has_12 : decode cX8_has 12 = .ok (.iconst 1, 1) := by decide +kernel
theorem dX8_has_13 : decode cX8_has 13 = .ok (.goto 4, 3) := by decide +kernel
theorem dX8_has_16 : decode cX8_has 16 = .ok (.iconst 0, 1) := by decide +kernel
theorem dX8_has_17 : decode cX8_has 17 = .ok (.ireturn, 1) := by decide +kernel
theorem dX8_beginThreads_0 : decode cX8_beginThreads 0 = .ok (.aload_n 0, 1) := by decide +kernel
theorem dX8_beginThreads_1 : decode cX8_beginThreads 1 = .ok (.getfield 18, 3) := by decide +kernel
theorem dX8_beginThreads_4 : decode cX8_beginThreads 4 = .ok (.iconst 0, 1) := by decide +kernel
theorem dX8_beginThreads_5 : decode cX8_beginThreads 5 = .ok (.invokestatic 33, 3) := by decide +kernel
theorem dX8_beginThreads_8 : decode cX8_beginThreads 8 = .ok (.return_, 1) := by decide +kernel
theorem dX8_goByRule_0 : decode cX8_goByRule 0 = .ok (.aload_n 0, 1) := by decide +kernel
theorem dX8_goByRule_1 : decode cX8_goByRule 1 = .ok (.getfield 25, 3) := by decide +kernel
theorem dX8_goByRule_4 : decode cX8_goByRule 4 = .ok (.invokevirtual 39, 3) := by decide +kernel
theorem dX8_goByRule_7 : decode cX8_goByRule 7 = .ok (.iconst 0, 1) := by decide +kernel
theorem dX8_goByRule_8 : decode cX8_goByRule 8 = .ok (.istore_n 2, 1) := by decide +kernel
theorem dX8_goByRule_9 : decode cX8_goByRule 9 = .ok (.iload_n 2, 1) := by decide +kernel
theorem dX8_goByRule_10 : decode cX8_goByRule 10 = .ok (.aload_n 0, 1) := by decide +kernel
theorem dX8_goByRule_11 : decode cX8_goByRule 11 = .ok (.getfield 21, 3) := by decide +kernel
theorem dX8_goByRule_14 : decode cX8_goByRule 14 = .ok (.getfield 44, 3) := by decide +kernel
theorem dX8_goByRule_17 : decode cX8_goByRule 17 = .ok (.if_icmp .ge 49, 3) := by decide +kernel
theorem dX8_goByRule_20 : decode cX8_goByRule 20 = .ok (.iload_n 2, 1) := by decide +kernel
theorem dX8_goByRule_21 : decode cX8_goByRule 21 = .ok (.aload_n 0, 1) := by decide +kernel
theorem dX8_goByRule_22 : decode cX8_goByRule 22 = .ok (.getfield 9, 3) := by decide +kernel
theorem dX8_goByRule_25 : decode cX8_goByRule 25 = .ok (.arraylength, 1) := by decide +kernel
theorem dX8_goByRule_26 : decode cX8_goByRule 26 = .ok (.if_icmp .ge 40, 3) := by decide +kernel
theorem dX8_goByRule_29 : decode cX8_goByRule 29 = .ok (.aload_n 0, 1) := by decide +kernel
theorem dX8_goByRule_30 : decode cX8_goByRule 30 = .ok (.getfield 25, 3) := by decide +kernel
theorem dX8_goByRule_33 : decode cX8_goByRule 33 = .ok (.iload_n 1, 1) := by decide +kernel
theorem dX8_goByRule_34 : decode cX8_goByRule 34 = .ok (.invokevirtual 49, 3) := by decide +kernel
theorem dX8_goByRule_37 : decode cX8_goByRule 37 = .ok (.astore_n 3, 1) := by decide +kernel
theorem dX8_goByRule_38 : decode cX8_goByRule 38 = .ok (.aload_n 3, 1) := by decide +kernel
theorem dX8_goByRule_39 : decode cX8_goByRule 39 = .ok (.ifnull 21, 3) := by decide +kernel
theorem dX8_goByRule_42 : decode cX8_goByRule 42 = .ok (.aload_n 0, 1) := by decide +kernel
theorem dX8_goByRule_43 : decode cX8_goByRule 43 = .ok (.getfield 9, 3) := by decide +kernel
theorem dX8_goByRule_46 : decode cX8_goByRule 46 = .ok (.iload_n 2, 1) := by decide +kernel
theorem dX8_goByRule_47 : decode cX8_goByRule 47 = .ok (.aload_n 3, 1) := by decide +kernel
theorem dX8_goByRule_48 : decode cX8_goByRule 48 = .ok (.getfield 53, 3) := by decide +kernel
theorem dX8_goByRule_51 : decode cX8_goByRule 51 = .ok (.iastore, 1) := by decide +kernel
theorem dX8_goByRule_52 : decode cX8_goByRule 52 = .ok (.aload_n 0, 1) := by decide +kernel
theorem dX8_goByRule_53 : decode cX8_goByRule 53 = .ok (.getfield 25, 3) := by decide +kernel
theorem dX8_goByRule_56 : decode cX8_goByRule 56 = .ok (.aload_n 3, 1) := by decide +kernel
theorem dX8_goByRule_57 : decode cX8_goByRule 57 = .ok (.invokevirtual 58, 3) := by decide +kernel
theorem dX8_goByRule_60 : decode cX8_goByRule 60 = .ok (.iinc 2 1, 3) := by decide +kernel
theorem dX8_goByRule_63 : decode cX8_goByRule 63 = .ok (.goto (-54), 3) := by decide +kernel
theorem dX8_goByRule_66 : decode cX8_goByRule 66 = .ok (.aload_n 0, 1) := by decide +kernel
theorem dX8_goByRule_67 : decode cX8_goByRule 67 = .ok (.aload_n 0, 1) := by decide +kernel
theorem dX8_goByRule_68 : decode cX8_goByRule 68 = .ok (.getfield 21, 3) := by decide +kernel
theorem dX8_goByRule_71 : decode cX8_goByRule 71 = .ok (.getfield 44, 3) := by decide +kernel
theorem dX8_goByRule_74 : decode cX8_goByRule 74 = .ok (.invokevirtual 62, 3) := by decide +kernel
theorem dX8_goByRule_77 : decode cX8_goByRule 77 = .ok (.ireturn, 1) := by decide +kernel
theorem dX8_faultOf_0 : decode cX8_faultOf 0 = .ok (.aload_n 0, 1) := by decide +kernel
theorem dX8_faultOf_1 : decode cX8_faultOf 1 = .ok (.getfield 25, 3) := by decide +kernel
theorem dX8_faultOf_4 : decode cX8_faultOf 4 = .ok (.invokevirtual 39, 3) := by decide +kernel
theorem dX8_faultOf_7 : decode cX8_faultOf 7 = .ok (.iconst 0, 1) := by decide +kernel
theorem dX8_faultOf_8 : decode cX8_faultOf 8 = .ok (.istore_n 3, 1) := by decide +kernel
theorem dX8_faultOf_9 : decode cX8_faultOf 9 = .ok (.iload_n 3, 1) := by decide +kernel
theorem dX8_faultOf_10 : decode cX8_faultOf 10 = .ok (.iload_n 2, 1) := by decide +kernel
theorem dX8_faultOf_11 : decode cX8_faultOf 11 = .ok (.if_icmp .ge 55, 3) := by decide +kernel
theorem dX8_faultOf_14 : decode cX8_faultOf 14 = .ok (.iload_n 3, 1) := by decide +kernel
theorem dX8_faultOf_15 : decode cX8_faultOf 15 = .ok (.aload_n 1, 1) := by decide +kernel
theorem dX8_faultOf_16 : decode cX8_faultOf 16 = .ok (.arraylength, 1) := by decide +kernel
theorem dX8_faultOf_17 : decode cX8_faultOf 17 = .ok (.if_icmp .ge 49, 3) := by decide +kernel
theorem dX8_faultOf_20 : decode cX8_faultOf 20 = .ok (.aload_n 0, 1) := by decide +kernel
theorem dX8_faultOf_21 : decode cX8_faultOf 21 = .ok (.getfield 21, 3) := by decide +kernel
theorem dX8_faultOf_24 : decode cX8_faultOf 24 = .ok (.aload_n 1, 1) := by decide +kernel
theorem dX8_faultOf_25 : decode cX8_faultOf 25 = .ok (.iload_n 3, 1) := by decide +kernel
theorem dX8_faultOf_26 : decode cX8_faultOf 26 = .ok (.iaload, 1) := by decide +kernel
theorem dX8_faultOf_27 : decode cX8_faultOf 27 = .ok (.invokevirtual 66, 3) := by decide +kernel
theorem dX8_faultOf_30 : decode cX8_faultOf 30 = .ok (.astore 4, 2) := by decide +kernel
theorem dX8_faultOf_32 : decode cX8_faultOf 32 = .ok (.aload 4, 2) := by decide +kernel
theorem dX8_faultOf_34 : decode cX8_faultOf 34 = .ok (.ifnull 15, 3) := by decide +kernel
theorem dX8_faultOf_37 : decode cX8_faultOf 37 = .ok (.aload_n 0, 1) := by decide +kernel
theorem dX8_faultOf_38 : decode cX8_faultOf 38 = .ok (.getfield 25, 3) := by decide +kernel
theorem dX8_faultOf_41 : decode cX8_faultOf 41 = .ok (.aload 4, 2) := by decide +kernel
theorem dX8_faultOf_43 : decode cX8_faultOf 43 = .ok (.invokevirtual 69, 3) := by decide +kernel
theorem dX8_faultOf_46 : decode cX8_faultOf 46 = .ok (.ifCond .ne 5, 3) := by decide +kernel
theorem dX8_faultOf_49 : decode cX8_faultOf 49 = .ok (.iload_n 3, 1) := by decide +kernel
theorem dX8_faultOf_50 : decode cX8_faultOf 50 = .ok (.ireturn, 1) := by decide +kernel
theorem dX8_faultOf_51 : decode cX8_faultOf 51 = .ok (.aload_n 0, 1) := by decide +kernel
theorem dX8_faultOf_52 : decode cX8_faultOf 52 = .ok (.getfield 25, 3) := by decide +kernel
theorem dX8_faultOf_55 : decode cX8_faultOf 55 = .ok (.aload 4, 2) := by decide +kernel
theorem dX8_faultOf_57 : decode cX8_faultOf 57 = .ok (.invokevirtual 58, 3) := by decide +kernel
theorem dX8_faultOf_60 : decode cX8_faultOf 60 = .ok (.iinc 3 1, 3) := by decide +kernel
theorem dX8_faultOf_63 : decode cX8_faultOf 63 = .ok (.goto (-54), 3) := by decide +kernel
theorem dX8_faultOf_66 : decode cX8_faultOf 66 = .ok (.aload_n 0, 1) := by decide +kernel
theorem dX8_faultOf_67 : decode cX8_faultOf 67 = .ok (.getfield 25, 3) := by decide +kernel
theorem dX8_faultOf_70 : decode cX8_faultOf 70 = .ok (.getfield 73, 3) := by decide +kernel
theorem dX8_faultOf_73 : decode cX8_faultOf 73 = .ok (.ifCond .le 7, 3) := by decide +kernel
theorem dX8_faultOf_76 : decode cX8_faultOf 76 = .ok (.iload_n 2, 1) := by decide +kernel
theorem dX8_faultOf_77 : decode cX8_faultOf 77 = .ok (.goto 4, 3) := by decide +kernel
theorem dX8_faultOf_80 : decode cX8_faultOf 80 = .ok (.iconst (-1), 1) := by decide +kernel
theorem dX8_faultOf_81 : decode cX8_faultOf 81 = .ok (.ireturn, 1) := by decide +kernel
theorem dX8_adopt_0 : decode cX8_adopt 0 = .ok (.aload_n 0, 1) := by decide +kernel
theorem dX8_adopt_1 : decode cX8_adopt 1 = .ok (.getfield 25, 3) := by decide +kernel
theorem dX8_adopt_4 : decode cX8_adopt 4 = .ok (.invokevirtual 39, 3) := by decide +kernel
theorem dX8_adopt_7 : decode cX8_adopt 7 = .ok (.iconst 0, 1) := by decide +kernel
theorem dX8_adopt_8 : decode cX8_adopt 8 = .ok (.istore_n 3, 1) := by decide +kernel
theorem dX8_adopt_9 : decode cX8_adopt 9 = .ok (.iload_n 3, 1) := by decide +kernel
theorem dX8_adopt_10 : decode cX8_adopt 10 = .ok (.iload_n 2, 1) := by decide +kernel
theorem dX8_adopt_11 : decode cX8_adopt 11 = .ok (.if_icmp .ge 59, 3) := by decide +kernel
theorem dX8_adopt_14 : decode cX8_adopt 14 = .ok (.iload_n 3, 1) := by decide +kernel
theorem dX8_adopt_15 : decode cX8_adopt 15 = .ok (.aload_n 1, 1) := by decide +kernel
theorem dX8_adopt_16 : decode cX8_adopt 16 = .ok (.arraylength, 1) := by decide +kernel
theorem dX8_adopt_17 : decode cX8_adopt 17 = .ok (.if_icmp .ge 53, 3) := by decide +kernel
theorem dX8_adopt_20 : decode cX8_adopt 20 = .ok (.iload_n 3, 1) := by decide +kernel
theorem dX8_adopt_21 : decode cX8_adopt 21 = .ok (.aload_n 0, 1) := by decide +kernel
theorem dX8_adopt_22 : decode cX8_adopt 22 = .ok (.getfield 9, 3) := by decide +kernel
theorem dX8_adopt_25 : decode cX8_adopt 25 = .ok (.arraylength, 1) := by decide +kernel
theorem dX8_adopt_26 : decode cX8_adopt 26 = .ok (.if_icmp .ge 44, 3) := by decide +kernel
theorem dX8_adopt_29 : decode cX8_adopt 29 = .ok (.aload_n 0, 1) := by decide +kernel
theorem dX8_adopt_30 : decode cX8_adopt 30 = .ok (.getfield 9, 3) := by decide +kernel
theorem dX8_adopt_33 : decode cX8_adopt 33 = .ok (.iload_n 3, 1) := by decide +kernel
theorem dX8_adopt_34 : decode cX8_adopt 34 = .ok (.aload_n 1, 1) := by decide +kernel
theorem dX8_adopt_35 : decode cX8_adopt 35 = .ok (.iload_n 3, 1) := by decide +kernel
theorem dX8_adopt_36 : decode cX8_adopt 36 = .ok (.iaload, 1) := by decide +kernel
theorem dX8_adopt_37 : decode cX8_adopt 37 = .ok (.iastore, 1) := by decide +kernel
theorem dX8_adopt_38 : decode cX8_adopt 38 = .ok (.aload_n 0, 1) := by decide +kernel
theorem dX8_adopt_39 : decode cX8_adopt 39 = .ok (.getfield 21, 3) := by decide +kernel
theorem dX8_adopt_42 : decode cX8_adopt 42 = .ok (.aload_n 1, 1) := by decide +kernel
theorem dX8_adopt_43 : decode cX8_adopt 43 = .ok (.iload_n 3, 1) := by decide +kernel
theorem dX8_adopt_44 : decode cX8_adopt 44 = .ok (.iaload, 1) := by decide +kernel
theorem dX8_adopt_45 : decode cX8_adopt 45 = .ok (.invokevirtual 66, 3) := by decide +kernel
theorem dX8_adopt_48 : decode cX8_adopt 48 = .ok (.astore 4, 2) := by decide +kernel
theorem dX8_adopt_50 : decode cX8_adopt 50 = .ok (.aload 4, 2) := by decide +kernel
theorem dX8_adopt_52 : decode cX8_adopt 52 = .ok (.ifnull 12, 3) := by decide +kernel
theorem dX8_adopt_55 : decode cX8_adopt 55 = .ok (.aload_n 0, 1) := by decide +kernel
theorem dX8_adopt_56 : decode cX8_adopt 56 = .ok (.getfield 25, 3) := by decide +kernel
theorem dX8_adopt_59 : decode cX8_adopt 59 = .ok (.aload 4, 2) := by decide +kernel
theorem dX8_adopt_61 : decode cX8_adopt 61 = .ok (.invokevirtual 58, 3) := by decide +kernel
theorem dX8_adopt_64 : decode cX8_adopt 64 = .ok (.iinc 3 1, 3) := by decide +kernel
theorem dX8_adopt_67 : decode cX8_adopt 67 = .ok (.goto (-58), 3) := by decide +kernel
theorem dX8_adopt_70 : decode cX8_adopt 70 = .ok (.aload_n 0, 1) := by decide +kernel
theorem dX8_adopt_71 : decode cX8_adopt 71 = .ok (.iload_n 2, 1) := by decide +kernel
theorem dX8_adopt_72 : decode cX8_adopt 72 = .ok (.invokevirtual 62, 3) := by decide +kernel
theorem dX8_adopt_75 : decode cX8_adopt 75 = .ok (.ireturn, 1) := by decide +kernel
theorem dX8_settle_0 : decode cX8_settle 0 = .ok (.aload_n 0, 1) := by decide +kernel
theorem dX8_settle_1 : decode cX8_settle 1 = .ok (.iload_n 1, 1) := by decide +kernel
theorem dX8_settle_2 : decode cX8_settle 2 = .ok (.aload_n 0, 1) := by decide +kernel
theorem dX8_settle_3 : decode cX8_settle 3 = .ok (.getfield 9, 3) := by decide +kernel
theorem dX8_settle_6 : decode cX8_settle 6 = .ok (.arraylength, 1) := by decide +kernel
theorem dX8_settle_7 : decode cX8_settle 7 = .ok (.invokestatic 76, 3) := by decide +kernel
theorem dX8_settle_10 : decode cX8_settle 10 = .ok (.putfield 29, 3) := by decide +kernel
theorem dX8_settle_13 : decode cX8_settle 13 = .ok (.aload_n 0, 1) := by decide +kernel
theorem dX8_settle_14 : decode cX8_settle 14 = .ok (.getfield 25, 3) := by decide +kernel
theorem dX8_settle_17 : decode cX8_settle 17 = .ok (.getfield 82, 3) := by decide +kernel
theorem dX8_settle_20 : decode cX8_settle 20 = .ok (.iconst 0, 1) := by decide +kernel
theorem dX8_settle_21 : decode cX8_settle 21 = .ok (.aload_n 0, 1) := by decide +kernel
theorem dX8_settle_22 : decode cX8_settle 22 = .ok (.getfield 15, 3) := by decide +kernel
theorem dX8_settle_25 : decode cX8_settle 25 = .ok (.iconst 0, 1) := by decide +kernel
theorem dX8_settle_26 : decode cX8_settle 26 = .ok (.aload_n 0, 1) := by decide +kernel
theorem dX8_settle_27 : decode cX8_settle 27 = .ok (.getfield 15, 3) := by decide +kernel
theorem dX8_settle_30 : decode cX8_settle 30 = .ok (.arraylength, 1) := by decide +kernel
theorem dX8_settle_31 : decode cX8_settle 31 = .ok (.invokestatic 83, 3) := by decide +kernel
theorem dX8_settle_34 : decode cX8_settle 34 = .ok (.aload_n 0, 1) := by decide +kernel
theorem dX8_settle_35 : decode cX8_settle 35 = .ok (.invokevirtual 89, 3) := by decide +kernel
theorem dX8_settle_38 : decode cX8_settle 38 = .ok (.aload_n 0, 1) := by decide +kernel
theorem dX8_settle_39 : decode cX8_settle 39 = .ok (.getfield 25, 3) := by decide +kernel
theorem dX8_settle_42 : decode cX8_settle 42 = .ok (.getfield 92, 3) := by decide +kernel
theorem dX8_settle_45 : decode cX8_settle 45 = .ok (.ireturn, 1) := by decide +kernel
theorem dX8_onLineBehind_0 : decode cX8_onLineBehind 0 = .ok (.aload_n 1, 1) := by decide +kernel
theorem dX8_onLineBehind_1 : decode cX8_onLineBehind 1 = .ok (.getfield 95, 3) := by decide +kernel
theorem dX8_onLineBehind_4 : decode cX8_onLineBehind 4 = .ok (.istore_n 3, 1) := by decide +kernel
theorem dX8_onLineBehind_5 : decode cX8_onLineBehind 5 = .ok (.iconst 0, 1) := by decide +kernel
theorem dX8_onLineBehind_6 : decode cX8_onLineBehind 6 = .ok (.istore 4, 2) := by decide +kernel
theorem dX8_onLineBehind_8 : decode cX8_onLineBehind 8 = .ok (.iconst 0, 1) := by decide +kernel
theorem dX8_onLineBehind_9 : decode cX8_onLineBehind 9 = .ok (.istore 5, 2) := by decide +kernel
theorem dX8_onLineBehind_11 : decode cX8_onLineBehind 11 = .ok (.iconst 0, 1) := by decide +kernel
theorem dX8_onLineBehind_12 : decode cX8_onLineBehind 12 = .ok (.istore 6, 2) := by decide +kernel
theorem dX8_onLineBehind_14 : decode cX8_onLineBehind 14 = .ok (.iload 6, 2) := by decide +kernel
theorem dX8_onLineBehind_16 : decode cX8_onLineBehind 16 = .ok (.iload_n 2, 1) := by decide +kernel
theorem dX8_onLineBehind_17 : decode cX8_onLineBehind 17 = .ok (.if_icmp .ge 92, 3) := by decide +kernel
theorem dX8_onLineBehind_20 : decode cX8_onLineBehind 20 = .ok (.iload 6, 2) := by decide +kernel
theorem dX8_onLineBehind_22 : decode cX8_onLineBehind 22 = .ok (.aload_n 0, 1) := by decide +kernel
theorem dX8_onLineBehind_23 : decode cX8_onLineBehind 23 = .ok (.getfield 29, 3) := by decide +kernel
theorem dX8_onLineBehind_26 : decode cX8_onLineBehind 26 = .ok (.if_icmp .ge 83, 3) := by decide +kernel
theorem dX8_onLineBehind_29 : decode cX8_onLineBehind 29 = .ok (.aload_n 0, 1) := by decide +kernel
theorem dX8_onLineBehind_30 : decode cX8_onLineBehind 30 = .ok (.getfield 9, 3) := by decide +kernel
theorem dX8_onLineBehind_33 : decode cX8_onLineBehind 33 = .ok (.iload 6, 2) := by decide +kernel
theorem dX8_onLineBehind_35 : decode cX8_onLineBehind 35 = .ok (.iaload, 1) := by decide +kernel
theorem dX8_onLineBehind_36 : decode cX8_onLineBehind 36 = .ok (.aload_n 1, 1) := by decide +kernel
theorem dX8_onLineBehind_37 : decode cX8_onLineBehind 37 = .ok (.getfield 100, 3) := by decide +kernel
theorem dX8_onLineBehind_40 : decode cX8_onLineBehind 40 = .ok (.getfield 53, 3) := by decide +kernel
theorem dX8_onLineBehind_43 : decode cX8_onLineBehind 43 = .ok (.if_icmp .ne 23, 3) := by decide +kernel
theorem dX8_onLineBehind_46 : decode cX8_onLineBehind 46 = .ok (.iload_n 3, 1) := by decide +kernel
theorem dX8_onLineBehind_47 : decode cX8_onLineBehind 47 = .ok (.aload_n 1, 1) := by decide +kernel
theorem dX8_onLineBehind_48 : decode cX8_onLineBehind 48 = .ok (.iload 5, 2) := by decide +kernel
theorem dX8_onLineBehind_50 : decode cX8_onLineBehind 50 = .ok (.invokevirtual 104, 3) := by decide +kernel
theorem dX8_onLineBehind_53 : decode cX8_onLineBehind 53 = .ok (.isub, 1) := by decide +kernel
theorem dX8_onLineBehind_54 : decode cX8_onLineBehind 54 = .ok (.istore_n 3, 1) := by decide +kernel
theorem dX8_onLineBehind_55 : decode cX8_onLineBehind 55 = .ok (.aload_n 1, 1) := by decide +kernel
theorem dX8_onLineBehind_56 : decode cX8_onLineBehind 56 = .ok (.getfield 100, 3) := by decide +kernel
theorem dX8_onLineBehind_59 : decode cX8_onLineBehind 59 = .ok (.iload 5, 2) := by decide +kernel
theorem dX8_onLineBehind_61 : decode cX8_onLineBehind 61 = .ok (.invokevirtual 107, 3) := by decide +kernel
theorem dX8_onLineBehind_64 : decode cX8_onLineBehind 64 = .ok (.istore 5, 2) := by decide +kernel
theorem dX8_onLineBehind_66 : decode cX8_onLineBehind 66 = .ok (.aload_n 0, 1) := by decide +kernel
theorem dX8_onLineBehind_67 : decode cX8_onLineBehind 67 = .ok (.getfield 9, 3) := by decide +kernel
theorem dX8_onLineBehind_70 : decode cX8_onLineBehind 70 = .ok (.iload 6, 2) := by decide +kernel
theorem dX8_onLineBehind_72 : decode cX8_onLineBehind 72 = .ok (.iaload, 1) := by decide +kernel
theorem dX8_onLineBehind_73 : decode cX8_onLineBehind 73 = .ok (.aload_n 1, 1) := by decide +kernel
theorem dX8_onLineBehind_74 : decode cX8_onLineBehind 74 = .ok (.getfield 110, 3) := by decide +kernel
theorem dX8_onLineBehind_77 : decode cX8_onLineBehind 77 = .ok (.getfield 53, 3) := by decide +kernel
theorem dX8_onLineBehind_80 : decode cX8_onLineBehind 80 = .ok (.if_icmp .ne 23, 3) := by decide +kernel
theorem dX8_onLineBehind_83 : decode cX8_onLineBehind 83 = .ok (.iload_n 3, 1) := by decide +kernel
theorem dX8_onLineBehind_84 : decode cX8_onLineBehind 84 = .ok (.aload_n 1, 1) := by decide +kernel
theorem dX8_onLineBehind_85 : decode cX8_onLineBehind 85 = .ok (.iload 4, 2) := by decide +kernel
theorem dX8_onLineBehind_87 : decode cX8_onLineBehind 87 = .ok (.invokevirtual 113, 3) := by decide +kernel
theorem dX8_onLineBehind_90 : decode cX8_onLineBehind 90 = .ok (.iadd, 1) := by decide +kernel
theorem dX8_onLineBehind_91 : decode cX8_onLineBehind 91 = .ok (.istore_n 3, 1) := by decide +kernel
theorem dX8_onLineBehind_92 : decode cX8_onLineBehind 92 = .ok (.aload_n 1, 1) := by decide +kernel
theorem dX8_onLineBehind_93 : decode cX8_onLineBehind 93 = .ok (.getfield 110, 3) := by decide +kernel
theorem dX8_onLineBehind_96 : decode cX8_onLineBehind 96 = .ok (.iload 4, 2) := by decide +kernel
theorem dX8_onLineBehind_98 : decode cX8_onLineBehind 98 = .ok (.invokevirtual 107, 3) := by decide +kernel
theorem dX8_onLineBehind_101 : decode cX8_onLineBehind 101 = .ok (.istore 4, 2) := by decide +kernel
theorem dX8_onLineBehind_103 : decode cX8_onLineBehind 103 = .ok (.iinc 6 1, 3) := by decide +kernel
theorem dX8_onLineBehind_106 : decode cX8_onLineBehind 106 = .ok (.goto (-92), 3) := by decide +kernel
theorem dX8_onLineBehind_109 : decode cX8_onLineBehind 109 = .ok (.iload_n 3, 1) := by decide +kernel
theorem dX8_onLineBehind_110 : decode cX8_onLineBehind 110 = .ok (.ireturn, 1) := by decide +kernel
theorem dX8_nextPlaceOf_0 : decode cX8_nextPlaceOf 0 = .ok (.iconst 0, 1) := by decide +kernel
theorem dX8_nextPlaceOf_1 : decode cX8_nextPlaceOf 1 = .ok (.istore_n 2, 1) := by decide +kernel
theorem dX8_nextPlaceOf_2 : decode cX8_nextPlaceOf 2 = .ok (.iload_n 2, 1) := by decide +kernel
theorem dX8_nextPlaceOf_3 : decode cX8_nextPlaceOf 3 = .ok (.aload_n 0, 1) := by decide +kernel
theorem dX8_nextPlaceOf_4 : decode cX8_nextPlaceOf 4 = .ok (.getfield 29, 3) := by decide +kernel
theorem dX8_nextPlaceOf_7 : decode cX8_nextPlaceOf 7 = .ok (.if_icmp .ge 54, 3) := by decide +kernel
theorem dX8_nextPlaceOf_10 : decode cX8_nextPlaceOf 10 = .ok (.aload_n 0, 1) := by decide +kernel
theorem dX8_nextPlaceOf_11 : decode cX8_nextPlaceOf 11 = .ok (.getfield 18, 3) := by decide +kernel
theorem dX8_nextPlaceOf_14 : decode cX8_nextPlaceOf 14 = .ok (.iload_n 1, 1) := by decide +kernel
theorem dX8_nextPlaceOf_15 : decode cX8_nextPlaceOf 15 = .ok (.iaload, 1) := by decide +kernel
theorem dX8_nextPlaceOf_16 : decode cX8_nextPlaceOf 16 = .ok (.iload_n 2, 1) := by decide +kernel
theorem dX8_nextPlaceOf_17 : decode cX8_nextPlaceOf 17 = .ok (.iadd, 1) := by decide +kernel
theorem dX8_nextPlaceOf_18 : decode cX8_nextPlaceOf 18 = .ok (.aload_n 0, 1) := by decide +kernel
theorem dX8_nextPlaceOf_19 : decode cX8_nextPlaceOf 19 = .ok (.getfield 29, 3) := by decide +kernel
theorem dX8_nextPlaceOf_22 : decode cX8_nextPlaceOf 22 = .ok (.irem, 1) := by decide +kernel
theorem dX8_nextPlaceOf_23 : decode cX8_nextPlaceOf 23 = .ok (.istore_n 3, 1) := by decide +kernel
theorem dX8_nextPlaceOf_24 : decode cX8_nextPlaceOf 24 = .ok (.aload_n 0, 1) := by decide +kernel
theorem dX8_nextPlaceOf_25 : decode cX8_nextPlaceOf 25 = .ok (.getfield 21, 3) := by decide +kernel
theorem dX8_nextPlaceOf_28 : decode cX8_nextPlaceOf 28 = .ok (.aload_n 0, 1) := by decide +kernel
theorem dX8_nextPlaceOf_29 : decode cX8_nextPlaceOf 29 = .ok (.getfield 9, 3) := by decide +kernel
theorem dX8_nextPlaceOf_32 : decode cX8_nextPlaceOf 32 = .ok (.iload_n 3, 1) := by decide +kernel
theorem dX8_nextPlaceOf_33 : decode cX8_nextPlaceOf 33 = .ok (.iaload, 1) := by decide +kernel
theorem dX8_nextPlaceOf_34 : decode cX8_nextPlaceOf 34 = .ok (.invokevirtual 66, 3) := by decide +kernel
theorem dX8_nextPlaceOf_37 : decode cX8_nextPlaceOf 37 = .ok (.astore 4, 2) := by decide +kernel
theorem dX8_nextPlaceOf_39 : decode cX8_nextPlaceOf 39 = .ok (.aload 4, 2) := by decide +kernel
theorem dX8_nextPlaceOf_41 : decode cX8_nextPlaceOf 41 = .ok (.ifnull 14, 3) := by decide +kernel
theorem dX8_nextPlaceOf_44 : decode cX8_nextPlaceOf 44 = .ok (.aload 4, 2) := by decide +kernel
theorem dX8_nextPlaceOf_46 : decode cX8_nextPlaceOf 46 = .ok (.getfield 116, 3) := by decide +kernel
theorem dX8_nextPlaceOf_49 : decode cX8_nextPlaceOf 49 = .ok (.iload_n 1, 1) := by decide +kernel
theorem dX8_nextPlaceOf_50 : decode cX8_nextPlaceOf 50 = .ok (.if_icmp .ne 5, 3) := by decide +kernel
theorem dX8_nextPlaceOf_53 : decode cX8_nextPlaceOf 53 = .ok (.iload_n 3, 1) := by decide +kernel
theorem dX8_nextPlaceOf_54 : decode cX8_nextPlaceOf 54 = .ok (.ireturn, 1) := by decide +kernel
theorem dX8_nextPlaceOf_55 : decode cX8_nextPlaceOf 55 = .ok (.iinc 2 1, 3) := by decide +kernel
theorem dX8_nextPlaceOf_58 : decode cX8_nextPlaceOf 58 = .ok (.goto (-56), 3) := by decide +kernel
theorem dX8_nextPlaceOf_61 : decode cX8_nextPlaceOf 61 = .ok (.bipush (-9), 2) := by decide +kernel
theorem dX8_nextPlaceOf_63 : decode cX8_nextPlaceOf 63 = .ok (.ireturn, 1) := by decide +kernel
theorem dX9_init_0 : decode cX9_init 0 = .ok (.aload_n 0, 1) := by decide +kernel
theorem dX9_init_1 : decode cX9_init 1 = .ok (.invokespecial 3, 3) := by decide +kernel
theorem dX9_init_4 : decode cX9_init 4 = .ok (.aload_n 0, 1) := by decide +kernel
theorem dX9_init_5 : decode cX9_init 5 = .ok (.iconst 3, 1) := by decide +kernel
theorem dX9_init_6 : decode cX9_init 6 = .ok (.newarray .int, 2) := by decide +kernel
theorem dX9_init_8 : decode cX9_init 8 = .ok (.putfield 11, 3) := by decide +kernel
theorem dX9_init_11 : decode cX9_init 11 = .ok (.aload_n 0, 1) := by decide +kernel
theorem dX9_init_12 : decode cX9_init 12 = .ok (.aload_n 1, 1) := by decide +kernel
theorem dX9_init_13 : decode cX9_init 13 = .ok (.putfield 15, 3) := by decide +kernel
theorem dX9_init_16 : decode cX9_init 16 = .ok (.return_, 1) := by decide +kernel
theorem dX9_toFirst_0 : decode cX9_toFirst 0 = .ok (.aload_n 0, 1) := by decide +kernel
theorem dX9_toFirst_1 : decode cX9_toFirst 1 = .ok (.iconst 0, 1) := by decide +kernel
theorem dX9_toFirst_2 : decode cX9_toFirst 2 = .ok (.putfield 19, 3) := by decide +kernel
theorem dX9_toFirst_5 : decode cX9_toFirst 5 = .ok (.iconst 0, 1) := by decide +kernel
theorem dX9_toFirst_6 : decode cX9_toFirst 6 = .ok (.istore_n 1, 1) := by decide +kernel
theorem dX9_toFirst_7 : decode cX9_toFirst 7 = .ok (.iload_n 1, 1) := by decide +kernel
theorem dX9_toFirst_8 : decode cX9_toFirst 8 = .ok (.aload_n 0, 1) := by decide +kernel
theorem dX9_toFirst_9 : decode cX9_toFirst 9 = .ok (.getfield 15, 3) := by decide +kernel
theorem dX9_toFirst_12 : decode cX9_toFirst 12 = .ok (.getfield 23, 3) := by decide +kernel
theorem dX9_toFirst_15 : decode cX9_toFirst 15 = .ok (.if_icmp .ge 21, 3) := by decide +kernel
theorem dX9_toFirst_18 : decode cX9_toFirst 18 = .ok (.aload_n 0, 1) := by decide +kernel
theorem dX9_toFirst_19 : decode cX9_toFirst 19 = .ok (.getfield 15, 3) := by decide +kernel
theorem dX9_toFirst_22 : decode cX9_toFirst 22 = .ok (.getfield 28, 3) := by decide +kernel
theorem dX9_toFirst_25 : decode cX9_toFirst 25 = .ok (.iload_n 1, 1) := by decide +kernel
theorem dX9_toFirst_26 : decode cX9_toFirst 26 = .ok (.aaload, 1) := by decide +kernel
theorem dX9_toFirst_27 : decode cX9_toFirst 27 = .ok (.invokevirtual 32, 3) := by decide +kernel
theorem dX9_toFirst_30 : decode cX9_toFirst 30 = .ok (.iinc 1 1, 3) := by decide +kernel
theorem dX9_toFirst_33 : decode cX9_toFirst 33 = .ok (.goto (-26), 3) := by decide +kernel
theorem dX9_toFirst_36 : decode cX9_toFirst 36 = .ok (.iconst 0, 1) := by decide +kernel
theorem dX9_toFirst_37 : decode cX9_toFirst 37 = .ok (.istore_n 1, 1) := by decide +kernel
theorem dX9_toFirst_38 : decode cX9_toFirst 38 = .ok (.iload_n 1, 1) := by decide +kernel
theorem dX9_toFirst_39 : decode cX9_toFirst 39 = .ok (.aload_n 0, 1) := by decide +kernel
theorem dX9_toFirst_40 : decode cX9_toFirst 40 = .ok (.getfield 15, 3) := by decide +kernel
theorem dX9_toFirst_43 : decode cX9_toFirst 43 = .ok (.getfield 37, 3) := by decide +kernel
theorem dX9_toFirst_46 : decode cX9_toFirst 46 = .ok (.if_icmp .ge 21, 3) := by decide +kernel
theorem dX9_toFirst_49 : decode cX9_toFirst 49 = .ok (.aload_n 0, 1) := by decide +kernel
theorem dX9_toFirst_50 : decode cX9_toFirst 50 = .ok (.getfield 15, 3) := by decide +kernel
theorem dX9_toFirst_53 : decode cX9_toFirst 53 = .ok (.getfield 40, 3) := by decide +kernel
theorem dX9_toFirst_56 : decode cX9_toFirst 56 = .ok (.iload_n 1, 1) := by decide +kernel
theorem dX9_toFirst_57 : decode cX9_toFirst 57 = .ok (.aaload, 1) := by decide +kernel
theorem dX9_toFirst_58 : decode cX9_toFirst 58 = .ok (.invokevirtual 44, 3) := by decide +kernel
theorem dX9_toFirst_61 : decode cX9_toFirst 61 = .ok (.iinc 1 1, 3) := by decide +kernel
theorem dX9_toFirst_64 : decode cX9_toFirst 64 = .ok (.goto (-26), 3) := by decide +kernel
theorem dX9_toFirst_67 : decode cX9_toFirst 67 = .ok (.return_, 1) := by decide +kernel
theorem dX9_traceAt_0 : decode cX9_traceAt 0 = .ok (.iload_n 1, 1) := by decide +kernel
theorem dX9_traceAt_1 : decode cX9_traceAt 1 = .ok (.ifCond .lt 11, 3) := by decide +kernel
theorem dX9_traceAt_4 : decode cX9_traceAt 4 = .ok (.iload_n 1, 1) := by decide +kernel
theorem dX9_traceAt_5 : decode cX9_traceAt 5 = .ok (.aload_n 0, 1) := by decide +kernel
theorem dX9_traceAt_6 : decode cX9_traceAt 6 = .ok (.getfield 47, 3) := by decide +kernel
theorem dX9_traceAt_9 : decode cX9_traceAt 9 = .ok (.if_icmp .lt 8, 3) := by decide +kernel
theorem dX9_traceAt_12 : decode cX9_traceAt 12 = .ok (.bipush (-9), 2) := by decide +kernel
theorem dX9_traceAt_14 : decode cX9_traceAt 14 = .ok (.goto 9, 3) := by decide +kernel
theorem dX9_traceAt_17 : decode cX9_traceAt 17 = .ok (.aload_n 0, 1) := by decide +kernel
theorem dX9_traceAt_18 : decode cX9_traceAt 18 = .ok (.getfield 11, 3) := by decide +kernel
theorem dX9_traceAt_21 : decode cX9_traceAt 21 = .ok (.iload_n 1, 1) := by decide +kernel
theorem dX9_traceAt_22 : decode cX9_traceAt 22 = .ok (.iaload, 1) := by decide +kernel
theorem dX9_traceAt_23 : decode cX9_traceAt 23 = .ok (.ireturn, 1) := by decide +kernel
theorem dX9_isReady_0 : decode cX9_isReady 0 = .ok (.aload_n 1, 1) := by decide +kernel
theorem dX9_isReady_1 : decode cX9_isReady 1 = .ok (.getfield 50, 3) := by decide +kernel
theorem dX9_isReady_4 : decode cX9_isReady 4 = .ok (.astore_n 2, 1) := by decide +kernel
theorem dX9_isReady_5 : decode cX9_isReady 5 = .ok (.aload_n 2, 1) := by decide +kernel
theorem dX9_isReady_6 : decode cX9_isReady 6 = .ok (.ifnull 28, 3) := by decide +kernel
theorem dX9_isReady_9 : decode cX9_isReady 9 = .ok (.aload_n 2, 1) := by decide +kernel
theorem dX9_isReady_10 : decode cX9_isReady 10 = .ok (.getfield 54, 3) := by decide +kernel
theorem dX9_isReady_13 : decode cX9_isReady 13 = .ok (.aload_n 2, 1) := by decide +kernel
theorem dX9_isReady_14 : decode cX9_isReady 14 = .ok (.aload_n 1, 1) := by decide +kernel
theorem dX9_isReady_15 : decode cX9_isReady 15 = .ok (.getfield 57, 3) := by decide +kernel
theorem dX9_isReady_18 : decode cX9_isReady 18 = .ok (.invokevirtual 60, 3) := by decide +kernel
theorem dX9_isReady_21 : decode cX9_isReady 21 = .ok (.if_icmp .ge 5, 3) := by decide +kernel
theorem dX9_isReady_24 : decode cX9_isReady 24 = .ok (.iconst 0, 1) := by decide +kernel
theorem dX9_isReady_25 : decode cX9_isReady 25 = .ok (.ireturn, 1) := by decide +kernel
theorem dX9_isReady_26 : decode cX9_isReady 26 = .ok (.aload_n 2, 1) := by decide +kernel
theorem dX9_isReady_27 : decode cX9_isReady 27 = .ok (.getfield 64, 3) := by decide +kernel
theorem dX9_isReady_30 : decode cX9_isReady 30 = .ok (.astore_n 2, 1) := by decide +kernel
theorem dX9_isReady_31 : decode cX9_isReady 31 = .ok (.goto (-26), 3) := by decide +kernel
theorem dX9_isReady_34 : decode cX9_isReady 34 = .ok (.iconst 1, 1) := by decide +kernel
theorem dX9_isReady_35 : decode cX9_isReady 35 = .ok (.ireturn, 1) := by decide +kernel
theorem dX9_attempt_0 : decode cX9_attempt 0 = .ok (.aload_n 0, 1) := by decide +kernel
theorem dX9_attempt_1 : decode cX9_attempt 1 = .ok (.getfield 19, 3) := by decide +kernel
theorem dX9_attempt_4 : decode cX9_attempt 4 = .ok (.sipush 5000, 3) := by decide +kernel
theorem dX9_attempt_7 : decode cX9_attempt 7 = .ok (.if_icmp .lt 6, 3) := by decide +kernel
theorem dX9_attempt_10 : decode cX9_attempt 10 = .ok (.bipush (-4), 2) := by decide +kernel
theorem dX9_attempt_12 : decode cX9_attempt 12 = .ok (.ireturn, 1) := by decide +kernel
theorem dX9_attempt_13 : decode cX9_attempt 13 = .ok (.aload_n 0, 1) := by decide +kernel
theorem dX9_attempt_14 : decode cX9_attempt 14 = .ok (.aload_n 1, 1) := by decide +kernel
theorem dX9_attempt_15 : decode cX9_attempt 15 = .ok (.invokevirtual 67, 3) := by decide +kernel
theorem dX9_attempt_18 : decode cX9_attempt 18 = .ok (.ifCond .ne 5, 3) := by decide +kernel
theorem dX9_attempt_21 : decode cX9_attempt 21 = .ok (.iconst 0, 1) := by decide +kernel
theorem dX9_attempt_22 : decode cX9_attempt 22 = .ok (.ireturn, 1) := by decide +kernel
theorem dX9_attempt_23 : decode cX9_attempt 23 = .ok (.aload_n 0, 1) := by decide +kernel
theorem dX9_attempt_24 : decode cX9_attempt 24 = .ok (.aload_n 1, 1) := by decide +kernel
theorem dX9_attempt_25 : decode cX9_attempt 25 = .ok (.invokevirtual 71, 3) := by decide +kernel
theorem dX9_attempt_28 : decode cX9_attempt 28 = .ok (.ifCond .eq 6, 3) := by decide +kernel
theorem dX9_attempt_31 : decode cX9_attempt 31 = .ok (.bipush (-4), 2) := by decide +kernel
theorem dX9_attempt_33 : decode cX9_attempt 33 = .ok (.ireturn, 1) := by decide +kernel
theorem dX9_attempt_34 : decode cX9_attempt 34 = .ok (.aload_n 0, 1) := by decide +kernel
theorem dX9_attempt_35 : decode cX9_attempt 35 = .ok (.iconst 0, 1) := by decide +kernel
theorem dX9_attempt_36 : decode cX9_attempt 36 = .ok (.putfield 47, 3) := by decide +kernel
theorem dX9_attempt_39 : decode cX9_attempt 39 = .ok (.aload_n 0, 1) := by decide +kernel
theorem dX9_attempt_40 : decode cX9_attempt 40 = .ok (.iconst 0, 1) := by decide +kernel
theorem dX9_attempt_41 : decode cX9_attempt 41 = .ok (.putfield 74, 3) := by decide +kernel
theorem dX9_attempt_44 : decode cX9_attempt 44 = .ok (.aload_n 0, 1) := by decide +kernel
theorem dX9_attempt_45 : decode cX9_attempt 45 = .ok (.aload_n 0, 1) := by decide +kernel
theorem dX9_attempt_46 : decode cX9_attempt 46 = .ok (.aload_n 1, 1) := by decide +kernel
theorem dX9_attempt_47 : decode cX9_attempt 47 = .ok (.invokevirtual 77, 3) := by decide +kernel
theorem dX9_attempt_50 : decode cX9_attempt 50 = .ok (.putfield 81, 3) := by decide +kernel
theorem dX9_attempt_53 : decode cX9_attempt 53 = .ok (.aload_n 0, 1) := by decide +kernel
theorem dX9_attempt_54 : decode cX9_attempt 54 = .ok (.aload_n 1, 1) := by decide +kernel
theorem dX9_attempt_55 : decode cX9_attempt 55 = .ok (.invokevirtual 85, 3) := by decide +kernel
theorem dX9_attempt_58 : decode cX9_attempt 58 = .ok (.lstore_n 2, 1) := by decide +kernel
theorem dX9_attempt_59 : decode cX9_attempt 59 = .ok (.aload_n 0, 1) := by decide +kernel
theorem dX9_attempt_60 : decode cX9_attempt 60 = .ok (.getfield 74, 3) := by decide +kernel
theorem dX9_attempt_63 : decode cX9_attempt 63 = .ok (.ifCond .eq 6, 3) := by decide +kernel
theorem dX9_attempt_66 : decode cX9_attempt 66 = .ok (.bipush (-3), 2) := by decide +kernel
theorem dX9_attempt_68 : decode cX9_attempt 68 = .ok (.ireturn, 1) := by decide +kernel
theorem dX9_attempt_69 : decode cX9_attempt 69 = .ok (.aload_n 0, 1) := by decide +kernel
theorem dX9_attempt_70 : decode cX9_attempt 70 = .ok (.aload_n 1, 1) := by decide +kernel
theorem dX9_attempt_71 : decode cX9_attempt 71 = .ok (.lload_n 2, 1) := by decide +kernel
theorem dX9_attempt_72 : decode cX9_attempt 72 = .ok (.invokevirtual 88, 3) := by decide +kernel
theorem dX9_attempt_75 : decode cX9_attempt 75 = .ok (.aload_n 0, 1) := by decide +kernel
theorem dX9_attempt_76 : decode cX9_attempt 76 = .ok (.dup, 1) := by decide +kernel
theorem dX9_attempt_77 : decode cX9_attempt 77 = .ok (.getfield 19, 3) := by decide +kernel
theorem dX9_attempt_80 : decode cX9_attempt 80 = .ok (.iconst 1, 1) := by decide +kernel
theorem dX9_attempt_81 : decode cX9_attempt 81 = .ok (.iadd, 1) := by decide +kernel
theorem dX9_attempt_82 : decode cX9_attempt 82 = .ok (.putfield 19, 3) := by decide +kernel
theorem dX9_attempt_85 : decode cX9_attempt 85 = .ok (.aload_n 0, 1) := by decide +kernel
theorem dX9_attempt_86 : decode cX9_attempt 86 = .ok (.lload_n 2, 1) := by decide +kernel
theorem dX9_attempt_87 : decode cX9_attempt 87 = .ok (.putfield 92, 3) := by decide +kernel
theorem dX9_attempt_90 : decode cX9_attempt 90 = .ok (.iconst 1, 1) := by decide +kernel
theorem dX9_attempt_91 : decode cX9_attempt 91 = .ok (.ireturn, 1) := by decide +kernel
theorem dX9_wouldOverflow_0 : decode cX9_wouldOverflow 0 = .ok (.aload_n 1, 1) := by decide +kernel
theorem dX9_wouldOverflow_1 : decode cX9_wouldOverflow 1 = .ok (.getfield 95, 3) := by decide +kernel
theorem dX9_wouldOverflow_4 : decode cX9_wouldOverflow 4 = .ok (.astore_n 2, 1) := by decide +kernel
theorem dX9_wouldOverflow_5 : decode cX9_wouldOverflow 5 = .ok (.aload_n 2, 1) := by decide +kernel
theorem dX9_wouldOverflow_6 : decode cX9_wouldOverflow 6 = .ok (.ifnull 55, 3) := by decide +kernel
theorem dX9_wouldOverflow_9 : decode cX9_wouldOverflow 9 = .ok (.aload_n 2, 1) := by decide +kernel
theorem dX9_wouldOverflow_10 : decode cX9_wouldOverflow 10 = .ok (.getfield 98, 3) := by decide +kernel
theorem dX9_wouldOverflow_13 : decode cX9_wouldOverflow 13 = .ok (.aload_n 1, 1) := by decide +kernel
theorem dX9_wouldOverflow_14 : decode cX9_wouldOverflow 14 = .ok (.if_acmp .ne 14, 3) := by decide +kernel
theorem dX9_wouldOverflow_17 : decode cX9_wouldOverflow 17 = .ok (.aload_n 2, 1) := by decide +kernel
theorem dX9_wouldOverflow_18 : decode cX9_wouldOverflow 18 = .ok (.aload_n 1, 1) := by decide +kernel
theorem dX9_wouldOverflow_19 : decode cX9_wouldOverflow 19 = .ok (.getfield 57, 3) := by decide +kernel
theorem dX9_wouldOverflow_22 : decode cX9_wouldOverflow 22 = .ok (.invokevirtual 60, 3) := by decide +kernel
theorem dX9_wouldOverflow_25 : decode cX9_wouldOverflow 25 = .ok (.goto 4, 3) := by decide +kernel
theorem dX9_wouldOverflow_28 : decode cX9_wouldOverflow 28 = .ok (.iconst 0, 1) := by decide +kernel
theorem dX9_wouldOverflow_29 : decode cX9_wouldOverflow 29 = .ok (.istore_n 3, 1) := by decide +kernel
theorem dX9_wouldOverflow_30 : decode cX9_wouldOverflow 30 = .ok (.aload_n 2, 1) := by decide +kernel
theorem dX9_wouldOverflow_31 : decode cX9_wouldOverflow 31 = .ok (.getfield 54, 3) := by decide +kernel
theorem dX9_wouldOverflow_34 : decode cX9_wouldOverflow 34 = .ok (.iload_n 3, 1) := by decide +kernel
theorem dX9_wouldOverflow_35 : decode cX9_wouldOverflow 35 = .ok (.isub, 1) := by decide +kernel
theorem dX9_wouldOverflow_36 : decode cX9_wouldOverflow 36 = .ok (.aload_n 2, 1) := by decide +kernel
theorem dX9_wouldOverflow_37 : decode cX9_wouldOverflow 37 = .ok (.aload_n 1, 1) := by decide +kernel
theorem dX9_wouldOverflow_38 : decode cX9_wouldOverflow 38 = .ok (.getfield 57, 3) := by decide +kernel
theorem dX9_wouldOverflow_41 : decode cX9_wouldOverflow 41 = .ok (.invokevirtual 102, 3) := by decide +kernel
theorem dX9_wouldOverflow_44 : decode cX9_wouldOverflow 44 = .ok (.iadd, 1) := by decide +kernel
theorem dX9_wouldOverflow_45 : decode cX9_wouldOverflow 45 = .ok (.sipush 400, 3) := by decide +kernel
theorem dX9_wouldOverflow_48 : decode cX9_wouldOverflow 48 = .ok (.if_icmp .le 5, 3) := by decide +kernel
theorem dX9_wouldOverflow_51 : decode cX9_wouldOverflow 51 = .ok (.iconst 1, 1) := by decide +kernel
theorem dX9_wouldOverflow_52 : decode cX9_wouldOverflow 52 = .ok (.ireturn, 1) := by decide +kernel
theorem dX9_wouldOverflow_53 : decode cX9_wouldOverflow 53 = .ok (.aload_n 2, 1) := by decide +kernel
theorem dX9_wouldOverflow_54 : decode cX9_wouldOverflow 54 = .ok (.getfield 105, 3) := by decide +kernel
theorem dX9_wouldOverflow_57 : decode cX9_wouldOverflow 57 = .ok (.astore_n 2, 1) := by decide +kernel
theorem dX9_wouldOverflow_58 : decode cX9_wouldOverflow 58 = .ok (.goto (-53), 3) := by decide +kernel
theorem dX9_wouldOverflow_61 : decode cX9_wouldOverflow 61 = .ok (.iconst 0, 1) := by decide +kernel
theorem dX9_wouldOverflow_62 : decode cX9_wouldOverflow 62 = .ok (.ireturn, 1) := by decide +kernel
theorem dX9_move_0 : decode cX9_move 0 = .ok (.aload_n 1, 1) := by decide +kernel
theorem dX9_move_1 : decode cX9_move 1 = .ok (.getfield 50, 3) := by decide +kernel
theorem dX9_move_4 : decode cX9_move 4 = .ok (.astore 4, 2) := by decide +kernel
theorem dX9_move_6 : decode cX9_move 6 = .ok (.aload 4, 2) := by decide +kernel
theorem dX9_move_8 : decode cX9_move 8 = .ok (.ifnull 27, 3) := by decide +kernel
theorem dX9_move_11 : decode cX9_move 11 = .ok (.aload 4, 2) := by decide +kernel
theorem dX9_move_13 : decode cX9_move 13 = .ok (.aload 4, 2) := by decide +kernel
theorem dX9_move_15 : decode cX9_move 15 = .ok (.aload_n 1, 1) := by decide +kernel
theorem dX9_move_16 : decode cX9_move 16 = .ok (.getfield 57, 3) := by decide +kernel
theorem dX9_move_19 : decode cX9_move 19 = .ok (.invokevirtual 60, 3) := by decide +kernel
theorem dX9_move_22 : decode cX9_move 22 = .ok (.invokevirtual 108, 3) := by decide +kernel
theorem dX9_move_25 : decode cX9_move 25 = .ok (.aload 4, 2) := by decide +kernel
theorem dX9_move_27 : decode cX9_move 27 = .ok (.getfield 64, 3) := by decide +kernel
theorem dX9_move_30 : decode cX9_move 30 = .ok (.astore 4, 2) := by decide +kernel
theorem dX9_move_32 : decode cX9_move 32 = .ok (.goto (-26), 3) := by decide +kernel
theorem dX9_move_35 : decode cX9_move 35 = .ok (.aload_n 1, 1) := by decide +kernel
theorem dX9_move_36 : decode cX9_move 36 = .ok (.getfield 95, 3) := by decide +kernel
theorem dX9_move_39 : decode cX9_move 39 = .ok (.astore 4, 2) := by decide +kernel
theorem dX9_move_41 : decode cX9_move 41 = .ok (.aload 4, 2) := by decide +kernel
theorem dX9_move_43 : decode cX9_move 43 = .ok (.ifnull 50, 3) := by decide +kernel
theorem dX9_move_46 : decode cX9_move 46 = .ok (.aload 4, 2) := by decide +kernel
theorem dX9_move_48 : decode cX9_move 48 = .ok (.aload_n 1, 1) := by decide +kernel
theorem dX9_move_49 : decode cX9_move 49 = .ok (.getfield 57, 3) := by decide +kernel
theorem dX9_move_52 : decode cX9_move 52 = .ok (.invokevirtual 102, 3) := by decide +kernel
theorem dX9_move_55 : decode cX9_move 55 = .ok (.istore 5, 2) := by decide +kernel
theorem dX9_move_57 : decode cX9_move 57 = .ok (.iconst 0, 1) := by decide +kernel
theorem dX9_move_58 : decode cX9_move 58 = .ok (.istore 6, 2) := by decide +kernel
theorem dX9_move_60 : decode cX9_move 60 = .ok (.iload 6, 2) := by decide +kernel
theorem dX9_move_62 : decode cX9_move 62 = .ok (.iload 5, 2) := by decide +kernel
theorem dX9_move_64 : decode cX9_move 64 = .ok (.if_icmp .ge 19, 3) := by decide +kernel
theorem dX9_move_67 : decode cX9_move 67 = .ok (.aload 4, 2) := by decide +kernel
theorem dX9_move_69 : decode cX9_move 69 = .ok (.lload_n 2, 1) := by decide +kernel
theorem dX9_move_70 : decode cX9_move 70 = .ok (.iload 6, 2) := by decide +kernel
theorem dX9_move_72 : decode cX9_move 72 = .ok (.i2l, 1) := by decide +kernel
theorem dX9_move_73 : decode cX9_move 73 = .ok (.ladd, 1) := by decide +kernel
theorem dX9_move_74 : decode cX9_move 74 = .ok (.invokevirtual 112, 3) := by decide +kernel
theorem dX9_move_77 : decode cX9_move 77 = .ok (.iinc 6 1, 3) := by decide +kernel
theorem dX9_move_80 : decode cX9_move 80 = .ok (.goto (-20), 3) := by decide +kernel
theorem dX9_move_83 : decode cX9_move 83 = .ok (.aload 4, 2) := by decide +kernel
theorem dX9_move_85 : decode cX9_move 85 = .ok (.getfield 105, 3) := by decide +kernel
theorem dX9_move_88 : decode cX9_move 88 = .ok (.astore 4, 2) := by decide +kernel
theorem dX9_move_90 : decode cX9_move 90 = .ok (.goto (-49), 3) := by decide +kernel
theorem dX9_move_93 : decode cX9_move 93 = .ok (.aload_n 1, 1) := by decide +kernel
theorem dX9_move_94 : decode cX9_move 94 = .ok (.aload_n 1, 1) := by decide +kernel
theorem dX9_move_95 : decode cX9_move 95 = .ok (.aload_n 1, 1) := by decide +kernel
theorem dX9_move_96 : decode cX9_move 96 = .ok (.getfield 57, 3) := by decide +kernel
theorem dX9_move_99 : decode cX9_move 99 = .ok (.invokevirtual 116, 3) := by decide +kernel
theorem dX9_move_102 : decode cX9_move 102 = .ok (.putfield 57, 3) := by decide +kernel
theorem dX9_move_105 : decode cX9_move 105 = .ok (.return_, 1) := by decide +kernel
theorem dX9_workOf_0 : decode cX9_workOf 0 = .ok (.aload_n 1, 1) := by decide +kernel
theorem dX9_workOf_1 : decode cX9_workOf 1 = .ok (.getfield 119, 3) := by decide +kernel
theorem dX9_workOf_4 : decode cX9_workOf 4 = .ok (.tableswitch 66 1 5 #[36, 42, 48, 54, 60], 36) := by decide +kernel
theorem dX9_workOf_40 : decode cX9_workOf 40 = .ok (.aload_n 0, 1) := by decide +kernel
theorem dX9_workOf_41 : decode cX9_workOf 41 = .ok (.aload_n 1, 1) := by decide +kernel
theorem dX9_workOf_42 : decode cX9_workOf 42 = .ok (.invokevirtual 122, 3) := by decide +kernel
theorem dX9_workOf_45 : decode cX9_workOf 45 = .ok (.lreturn, 1) := by decide +kernel
theorem dX9_workOf_46 : decode cX9_workOf 46 = .ok (.aload_n 0, 1) := by decide +kernel
theorem dX9_workOf_47 : decode cX9_workOf 47 = .ok (.aload_n 1, 1) := by decide +kernel
theorem dX9_workOf_48 : decode cX9_workOf 48 = .ok (.invokevirtual 125, 3) := by decide +kernel
theorem dX9_workOf_51 : decode cX9_workOf 51 = .ok (.lreturn, 1) := by decide +kernel
theorem dX9_workOf_52 : decode cX9_workOf 52 = .ok (.aload_n 0, 1) := by decide +kernel
theorem dX9_workOf_53 : decode cX9_workOf 53 = .ok (.aload_n 1, 1) := by decide +kernel
theorem dX9_workOf_54 : decode cX9_workOf 54 = .ok (.invokevirtual 128, 3) := by decide +kernel
theorem dX9_workOf_57 : decode cX9_workOf 57 = .ok (.lreturn, 1) := by decide +kernel
theorem dX9_workOf_58 : decode cX9_workOf 58 = .ok (.aload_n 0, 1) := by decide +kernel
theorem dX9_workOf_59 : decode cX9_workOf 59 = .ok (.aload_n 1, 1) := by decide +kernel
theorem dX9_workOf_60 : decode cX9_workOf 60 = .ok (.invokevirtual 131, 3) := by decide +kernel
theorem dX9_workOf_63 : decode cX9_workOf 63 = .ok (.lreturn, 1) := by decide +kernel
theorem dX9_workOf_64 : decode cX9_workOf 64 = .ok (.aload_n 0, 1) := by decide +kernel
theorem dX9_workOf_65 : decode cX9_workOf 65 = .ok (.aload_n 1, 1) := by decide +kernel
theorem dX9_workOf_66 : decode cX9_workOf 66 = .ok (.invokevirtual 134, 3) := by decide +kernel
theorem dX9_workOf_69 : decode cX9_workOf 69 = .ok (.lreturn, 1) := by decide +kernel
theorem dX9_workOf_70 : decode cX9_workOf 70 = .ok (.aload_n 0, 1) := by decide +kernel
theorem dX9_workOf_71 : decode cX9_workOf 71 = .ok (.aload_n 1, 1) := by decide +kernel
theorem dX9_workOf_72 : decode cX9_workOf 72 = .ok (.invokevirtual 137, 3) := by decide +kernel
theorem dX9_workOf_75 : decode cX9_workOf 75 = .ok (.lreturn, 1) := by decide +kernel
theorem dX9_writeTrace_0 : decode cX9_writeTrace 0 = .ok (.aload_n 0, 1) := by decide +kernel
theorem dX9_writeTrace_1 : decode cX9_writeTrace 1 = .ok (.getfield 47, 3) := by decide +kernel
theorem dX9_writeTrace_4 : decode cX9_writeTrace 4 = .ok (.iconst 3, 1) := by decide +kernel
theorem dX9_writeTrace_5 : decode cX9_writeTrace 5 = .ok (.if_icmp .ge 23, 3) := by decide +kernel
theorem dX9_writeTrace_8 : decode cX9_writeTrace 8 = .ok (.aload_n 0, 1) := by decide +kernel
theorem dX9_writeTrace_9 : decode cX9_writeTrace 9 = .ok (.getfield 11, 3) := by decide +kernel
theorem dX9_writeTrace_12 : decode cX9_writeTrace 12 = .ok (.aload_n 0, 1) := by decide +kernel
theorem dX9_writeTrace_13 : decode cX9_writeTrace 13 = .ok (.getfield 47, 3) := by decide +kernel
theorem dX9_writeTrace_16 : decode cX9_writeTrace 16 = .ok (.iload_n 1, 1) := by decide +kernel
theorem dX9_writeTrace_17 : decode cX9_writeTrace 17 = .ok (.iastore, 1) := by decide +kernel
theorem dX9_writeTrace_18 : decode cX9_writeTrace 18 = .ok (.aload_n 0, 1) := by decide +kernel
theorem dX9_writeTrace_19 : decode cX9_writeTrace 19 = .ok (.dup, 1) := by decide +kernel
theorem dX9_writeTrace_20 : decode cX9_writeTrace 20 = .ok (.getfield 47, 3) := by decide +kernel
theorem dX9_writeTrace_23 : decode cX9_writeTrace 23 = .ok (.iconst 1, 1) := by decide +kernel
theorem dX9_writeTrace_24 : decode cX9_writeTrace 24 = .ok (.iadd, 1) := by decide +kernel
theorem dX9_writeTrace_25 : decode cX9_writeTrace 25 = .ok (.putfield 47, 3) := by decide +kernel
theorem dX9_writeTrace_28 : decode cX9_writeTrace 28 = .ok (.return_, 1) := by decide +kernel
theorem dX9_fixedBody_0 : decode cX9_fixedBody 0 = .ok (.aload_n 0, 1) := by decide +kernel
theorem dX9_fixedBody_1 : decode cX9_fixedBody 1 = .ok (.iconst 1, 1) := by decide +kernel
theorem dX9_fixedBody_2 : decode cX9_fixedBody 2 = .ok (.invokevirtual 140, 3) := by decide +kernel
theorem dX9_fixedBody_5 : decode cX9_fixedBody 5 = .ok (.aload_n 0, 1) := by decide +kernel
theorem dX9_fixedBody_6 : decode cX9_fixedBody 6 = .ok (.getfield 81, 3) := by decide +kernel
theorem dX9_fixedBody_9 : decode cX9_fixedBody 9 = .ok (.aload_n 1, 1) := by decide +kernel
theorem dX9_fixedBody_10 : decode cX9_fixedBody 10 = .ok (.getfield 143, 3) := by decide +kernel
theorem dX9_fixedBody_13 : decode cX9_fixedBody 13 = .ok (.ladd, 1) := by decide +kernel
theorem dX9_fixedBody_14 : decode cX9_fixedBody 14 = .ok (.lreturn, 1) := by decide +kernel
theorem dX9_scaledBody_0 : decode cX9_scaledBody 0 = .ok (.aload_n 0, 1) := by decide +kernel
theorem dX9_scaledBody_1 : decode cX9_scaledBody 1 = .ok (.iconst 2, 1) := by decide +kernel
theorem dX9_scaledBody_2 : decode cX9_scaledBody 2 = .ok (.invokevirtual 140, 3) := by decide +kernel
theorem dX9_scaledBody_5 : decode cX9_scaledBody 5 = .ok (.aload_n 1, 1) := by decide +kernel
theorem dX9_scaledBody_6 : decode cX9_scaledBody 6 = .ok (.getfield 143, 3) := by decide +kernel
theorem dX9_scaledBody_9 : decode cX9_scaledBody 9 = .ok (.aload_n 0, 1) := by decide +kernel
theorem dX9_scaledBody_10 : decode cX9_scaledBody 10 = .ok (.aload_n 1, 1) := by decide +kernel
theorem dX9_scaledBody_11 : decode cX9_scaledBody 11 = .ok (.invokevirtual 137, 3) := by decide +kernel
theorem dX9_scaledBody_14 : decode cX9_scaledBody 14 = .ok (.lmul, 1) := by decide +kernel
theorem dX9_scaledBody_15 : decode cX9_scaledBody 15 = .ok (.lreturn, 1) := by decide +kernel
theorem dX9_keeperBody_0 : decode cX9_keeperBody 0 = .ok (.aload_n 0, 1) := by decide +kernel
theorem dX9_keeperBody_1 : decode cX9_keeperBody 1 = .ok (.iconst 3, 1) := by decide +kernel
theorem dX9_keeperBody_2 : decode cX9_keeperBody 2 = .ok (.invokevirtual 140, 3) := by decide +kernel
theorem dX9_keeperBody_5 : decode cX9_keeperBody 5 = .ok (.aload_n 1, 1) := by decide +kernel
theorem dX9_keeperBody_6 : decode cX9_keeperBody 6 = .ok (.dup, 1) := by decide +kernel
theorem dX9_keeperBody_7 : decode cX9_keeperBody 7 = .ok (.getfield 146, 3) := by decide +kernel
theorem dX9_keeperBody_10 : decode cX9_keeperBody 10 = .ok (.aload_n 0, 1) := by decide +kernel
theorem dX9_keeperBody_11 : decode cX9_keeperBody 11 = .ok (.aload_n 1, 1) := by decide +kernel
theorem dX9_keeperBody_12 : decode cX9_keeperBody 12 = .ok (.invokevirtual 122, 3) := by decide +kernel
theorem dX9_keeperBody_15 : decode cX9_keeperBody 15 = .ok (.ladd, 1) := by decide +kernel
theorem dX9_keeperBody_16 : decode cX9_keeperBody 16 = .ok (.putfield 146, 3) := by decide +kernel
theorem dX9_keeperBody_19 : decode cX9_keeperBody 19 = .ok (.aload_n 1, 1) := by decide +kernel
theorem dX9_keeperBody_20 : decode cX9_keeperBody 20 = .ok (.getfield 146, 3) := by decide +kernel
theorem dX9_keeperBody_23 : decode cX9_keeperBody 23 = .ok (.lreturn, 1) := by decide +kernel
theorem dX9_shareBody_0 : decode cX9_shareBody 0 = .ok (.aload_n 0, 1) := by decide +kernel
theorem dX9_shareBody_1 : decode cX9_shareBody 1 = .ok (.iconst 4, 1) := by decide +kernel
theorem dX9_shareBody_2 : decode cX9_shareBody 2 = .ok (.invokevirtual 140, 3) := by decide +kernel
theorem dX9_shareBody_5 : decode cX9_shareBody 5 = .ok (.aload_n 0, 1) := by decide +kernel
theorem dX9_shareBody_6 : decode cX9_shareBody 6 = .ok (.aload_n 1, 1) := by decide +kernel
theorem dX9_shareBody_7 : decode cX9_shareBody 7 = .ok (.invokevirtual 122, 3) := by decide +kernel
theorem dX9_shareBody_10 : decode cX9_shareBody 10 = .ok (.lstore_n 2, 1) := by decide +kernel
theorem dX9_shareBody_11 : decode cX9_shareBody 11 = .ok (.aload_n 1, 1) := by decide +kernel
theorem dX9_shareBody_12 : decode cX9_shareBody 12 = .ok (.getfield 50, 3) := by decide +kernel
theorem dX9_shareBody_15 : decode cX9_shareBody 15 = .ok (.ifnonnull 7, 3) := by decide +kernel
theorem dX9_shareBody_18 : decode cX9_shareBody 18 = .ok (.lconst 0, 1) := by decide +kernel
theorem dX9_shareBody_19 : decode cX9_shareBody 19 = .ok (.goto 11, 3) := by decide +kernel
theorem dX9_shareBody_22 : decode cX9_shareBody 22 = .ok (.aload_n 1, 1) := by decide +kernel
theorem dX9_shareBody_23 : decode cX9_shareBody 23 = .ok (.getfield 50, 3) := by decide +kernel
theorem dX9_shareBody_26 : decode cX9_shareBody 26 = .ok (.iconst 0, 1) := by decide +kernel
theorem dX9_shareBody_27 : decode cX9_shareBody 27 = .ok (.invokevirtual 149, 3) := by decide +kernel
theorem dX9_shareBody_30 : decode cX9_shareBody 30 = .ok (.lstore 4, 2) := by decide +kernel
theorem dX9_shareBody_32 : decode cX9_shareBody 32 = .ok (.lload 4, 2) := by decide +kernel
theorem dX9_shareBody_34 : decode cX9_shareBody 34 = .ok (.lconst 0, 1) := by decide +kernel
theorem dX9_shareBody_35 : decode cX9_shareBody 35 = .ok (.lcmp, 1) := by decide +kernel
theorem dX9_shareBody_36 : decode cX9_shareBody 36 = .ok (.ifCond .ne 10, 3) := by decide +kernel
theorem dX9_shareBody_39 : decode cX9_shareBody 39 = .ok (.aload_n 0, 1) := by decide +kernel
theorem dX9_shareBody_40 : decode cX9_shareBody 40 = .ok (.iconst 4, 1) := by decide +kernel
theorem dX9_shareBody_41 : decode cX9_shareBody 41 = .ok (.putfield 74, 3) := by decide +kernel
theorem dX9_shareBody_44 : decode cX9_shareBody 44 = .ok (.lconst 0, 1) := by decide +kernel
theorem dX9_shareBody_45 : decode cX9_shareBody 45 = .ok (.lreturn, 1) := by decide +kernel
theorem dX9_shareBody_46 : decode cX9_shareBody 46 = .ok (.lload_n 2, 1) := by decide +kernel
theorem dX9_shareBody_47 : decode cX9_shareBody 47 = .ok (.lload 4, 2) := by decide +kernel
theorem dX9_shareBody_49 : decode cX9_shareBody 49 = .ok (.ldiv, 1) := by decide +kernel
theorem dX9_shareBody_50 : decode cX9_shareBody 50 = .ok (.lreturn, 1) := by decide +kernel
theorem dX9_phasedBody_0 : decode cX9_phasedBody 0 = .ok (.aload_n 0, 1) := by decide +kernel
theorem dX9_phasedBody_1 : decode cX9_phasedBody 1 = .ok (.iconst 5, 1) := by decide +kernel
theorem dX9_phasedBody_2 : decode cX9_phasedBody 2 = .ok (.invokevirtual 140, 3) := by decide +kernel
theorem dX9_phasedBody_5 : decode cX9_phasedBody 5 = .ok (.aload_n 0, 1) := by decide +kernel
theorem dX9_phasedBody_6 : decode cX9_phasedBody 6 = .ok (.aload_n 1, 1) := by decide +kernel
theorem dX9_phasedBody_7 : decode cX9_phasedBody 7 = .ok (.invokevirtual 137, 3) := by decide +kernel
theorem dX9_phasedBody_10 : decode cX9_phasedBody 10 = .ok (.aload_n 1, 1) := by decide +kernel
theorem dX9_phasedBody_11 : decode cX9_phasedBody 11 = .ok (.getfield 57, 3) := by decide +kernel
theorem dX9_phasedBody_14 : decode cX9_phasedBody 14 = .ok (.i2l, 1) := by decide +kernel
theorem dX9_phasedBody_15 : decode cX9_phasedBody 15 = .ok (.ladd, 1) := by decide +kernel
theorem dX9_phasedBody_16 : decode cX9_phasedBody 16 = .ok (.lreturn, 1) := by decide +kernel
theorem dX9_delayBody_0 : decode cX9_delayBody 0 = .ok (.aload_n 0, 1) := by decide +kernel
theorem dX9_delayBody_1 : decode cX9_delayBody 1 = .ok (.bipush 6, 2) := by decide +kernel
theorem dX9_delayBody_3 : decode cX9_delayBody 3 = .ok (.invokevirtual 140, 3) := by decide +kernel
theorem dX9_delayBody_6 : decode cX9_delayBody 6 = .ok (.aload_n 1, 1) := by decide +kernel
theorem dX9_delayBody_7 : decode cX9_delayBody 7 = .ok (.getfield 153, 3) := by decide +kernel
theorem dX9_delayBody_10 : decode cX9_delayBody 10 = .ok (.ifnonnull 10, 3) := by decide +kernel
theorem dX9_delayBody_13 : decode cX9_delayBody 13 = .ok (.aload_n 0, 1) := by decide +kernel
theorem dX9_delayBody_14 : decode cX9_delayBody 14 = .ok (.iconst 1, 1) := by decide +kernel
theorem dX9_delayBody_15 : decode cX9_delayBody 15 = .ok (.putfield 74, 3) := by decide +kernel
theorem dX9_delayBody_18 : decode cX9_delayBody 18 = .ok (.lconst 0, 1) := by decide +kernel
theorem dX9_delayBody_19 : decode cX9_delayBody 19 = .ok (.lreturn, 1) := by decide +kernel
theorem dX9_delayBody_20 : decode cX9_delayBody 20 = .ok (.aload_n 0, 1) := by decide +kernel
theorem dX9_delayBody_21 : decode cX9_delayBody 21 = .ok (.aload_n 1, 1) := by decide +kernel
theorem dX9_delayBody_22 : decode cX9_delayBody 22 = .ok (.invokevirtual 137, 3) := by decide +kernel
theorem dX9_delayBody_25 : decode cX9_delayBody 25 = .ok (.lstore_n 2, 1) := by decide +kernel
theorem dX9_delayBody_26 : decode cX9_delayBody 26 = .ok (.aload_n 1, 1) := by decide +kernel
theorem dX9_delayBody_27 : decode cX9_delayBody 27 = .ok (.getfield 153, 3) := by decide +kernel
theorem dX9_delayBody_30 : decode cX9_delayBody 30 = .ok (.arraylength, 1) := by decide +kernel
theorem dX9_delayBody_31 : decode cX9_delayBody 31 = .ok (.ifCond .ne 5, 3) := by decide +kernel
theorem dX9_delayBody_34 : decode cX9_delayBody 34 = .ok (.lload_n 2, 1) := by decide +kernel
theorem dX9_delayBody_35 : decode cX9_delayBody 35 = .ok (.lreturn, 1) := by decide +kernel
theorem dX9_delayBody_36 : decode cX9_delayBody 36 = .ok (.aload_n 1, 1) := by decide +kernel
theorem dX9_delayBody_37 : decode cX9_delayBody 37 = .ok (.getfield 153, 3) := by decide +kernel
theorem dX9_delayBody_40 : decode cX9_delayBody 40 = .ok (.arraylength, 1) := by decide +kernel
theorem dX9_delayBody_41 : decode cX9_delayBody 41 = .ok (.iconst 1, 1) := by decide +kernel
theorem dX9_delayBody_42 : decode cX9_delayBody 42 = .ok (.isub, 1) := by decide +kernel
theorem dX9_delayBody_43 : decode cX9_delayBody 43 = .ok (.istore 4, 2) := by decide +kernel
theorem dX9_delayBody_45 : decode cX9_delayBody 45 = .ok (.aload_n 1, 1) := by decide +kernel
theorem dX9_delayBody_46 : decode cX9_delayBody 46 = .ok (.getfield 153, 3) := by decide +kernel
theorem dX9_delayBody_49 : decode cX9_delayBody 49 = .ok (.iconst 0, 1) := by decide +kernel
theorem dX9_delayBody_50 : decode cX9_delayBody 50 = .ok (.laload, 1) := by decide +kernel
theorem dX9_delayBody_51 : decode cX9_delayBody 51 = .ok (.lstore 5, 2) := by decide +kernel
theorem dX9_delayBody_53 : decode cX9_delayBody 53 = .ok (.aload_n 1, 1) := by decide +kernel
theorem dX9_delayBody_54 : decode cX9_delayBody 54 = .ok (.getfield 153, 3) := by decide +kernel
theorem dX9_delayBody_57 : decode cX9_delayBody 57 = .ok (.iconst 1, 1) := by decide +kernel
theorem dX9_delayBody_58 : decode cX9_delayBody 58 = .ok (.aload_n 1, 1) := by decide +kernel
theorem dX9_delayBody_59 : decode cX9_delayBody 59 = .ok (.getfield 153, 3) := by decide +kernel
theorem dX9_delayBody_62 : decode cX9_delayBody 62 = .ok (.iconst 0, 1) := by decide +kernel
theorem dX9_delayBody_63 : decode cX9_delayBody 63 = .ok (.iload 4, 2) := by decide +kernel
theorem dX9_delayBody_65 : decode cX9_delayBody 65 = .ok (.invokestatic 157, 3) := by decide +kernel
theorem dX9_delayBody_68 : decode cX9_delayBody 68 = .ok (.aload_n 1, 1) := by decide +kernel
theorem dX9_delayBody_69 : decode cX9_delayBody 69 = .ok (.getfield 153, 3) := by decide +kernel
theorem dX9_delayBody_72 : decode cX9_delayBody 72 = .ok (.iload 4, 2) := by decide +kernel
theorem dX9_delayBody_74 : decode cX9_delayBody 74 = .ok (.lload_n 2, 1) := by decide +kernel
theorem dX9_delayBody_75 : decode cX9_delayBody 75 = .ok (.lastore, 1) := by decide +kernel
theorem dX9_delayBody_76 : decode cX9_delayBody 76 = .ok (.lload 5, 2) := by decide +kernel
theorem dX9_delayBody_78 : decode cX9_delayBody 78 = .ok (.lreturn, 1) := by decide +kernel
theorem dX9_sumTaken_0 : decode cX9_sumTaken 0 = .ok (.lconst 0, 1) := by decide +kernel
theorem dX9_sumTaken_1 : decode cX9_sumTaken 1 = .ok (.lstore_n 2, 1) := by decide +kernel
theorem dX9_sumTaken_2 : decode cX9_sumTaken 2 = .ok (.aload_n 1, 1) := by decide +kernel
theorem dX9_sumTaken_3 : decode cX9_sumTaken 3 = .ok (.getfield 50, 3) := by decide +kernel
theorem dX9_sumTaken_6 : decode cX9_sumTaken 6 = .ok (.astore 4, 2) := by decide +kernel
theorem dX9_sumTaken_8 : decode cX9_sumTaken 8 = .ok (.aload 4, 2) := by decide +kernel
theorem dX9_sumTaken_10 : decode cX9_sumTaken 10 = .ok (.ifnull 50, 3) := by decide +kernel
theorem dX9_sumTaken_13 : decode cX9_sumTaken 13 = .ok (.aload 4, 2) := by decide +kernel
theorem dX9_sumTaken_15 : decode cX9_sumTaken 15 = .ok (.aload_n 1, 1) := by decide +kernel
theorem dX9_sumTaken_16 : decode cX9_sumTaken 16 = .ok (.getfield 57, 3) := by decide +kernel
theorem dX9_sumTaken_19 : decode cX9_sumTaken 19 = .ok (.invokevirtual 60, 3) := by decide +kernel
theorem dX9_sumTaken_22 : decode cX9_sumTaken 22 = .ok (.istore 5, 2) := by decide +kernel
theorem dX9_sumTaken_24 : decode cX9_sumTaken 24 = .ok (.iconst 0, 1) := by decide +kernel
theorem dX9_sumTaken_25 : decode cX9_sumTaken 25 = .ok (.istore 6, 2) := by decide +kernel
theorem dX9_sumTaken_27 : decode cX9_sumTaken 27 = .ok (.iload 6, 2) := by decide +kernel
theorem dX9_sumTaken_29 : decode cX9_sumTaken 29 = .ok (.iload 5, 2) := by decide +kernel
theorem dX9_sumTaken_31 : decode cX9_sumTaken 31 = .ok (.if_icmp .ge 19, 3) := by decide +kernel
theorem dX9_sumTaken_34 : decode cX9_sumTaken 34 = .ok (.lload_n 2, 1) := by decide +kernel
theorem dX9_sumTaken_35 : decode cX9_sumTaken 35 = .ok (.aload 4, 2) := by decide +kernel
theorem dX9_sumTaken_37 : decode cX9_sumTaken 37 = .ok (.iload 6, 2) := by decide +kernel
theorem dX9_sumTaken_39 : decode cX9_sumTaken 39 = .ok (.invokevirtual 149, 3) := by decide +kernel
theorem dX9_sumTaken_42 : decode cX9_sumTaken 42 = .ok (.ladd, 1) := by decide +kernel
theorem dX9_sumTaken_43 : decode cX9_sumTaken 43 = .ok (.lstore_n 2, 1) := by decide +kernel
theorem dX9_sumTaken_44 : decode cX9_sumTaken 44 = .ok (.iinc 6 1, 3) := by decide +kernel
theorem dX9_sumTaken_47 : decode cX9_sumTaken 47 = .ok (.goto (-20), 3) := by decide +kernel
theorem dX9_sumTaken_50 : decode cX9_sumTaken 50 = .ok (.aload 4, 2) := by decide +kernel
theorem dX9_sumTaken_52 : decode cX9_sumTaken 52 = .ok (.getfield 64, 3) := by decide +kernel
theorem dX9_sumTaken_55 : decode cX9_sumTaken 55 = .ok (.astore 4, 2) := by decide +kernel
theorem dX9_sumTaken_57 : decode cX9_sumTaken 57 = .ok (.goto (-49), 3) := by decide +kernel
theorem dX9_sumTaken_60 : decode cX9_sumTaken 60 = .ok (.lload_n 2, 1) := by decide +kernel
theorem dX9_sumTaken_61 : decode cX9_sumTaken 61 = .ok (.lreturn, 1) := by decide +kernel
