theorem dX7_init_0 : decode cX7_init 0 = .ok (.aload_n 0, 1) := by decide +kernel
theorem dX7_init_1 : decode cX7_init 1 = .ok (.invokespecial 1, 3) := by decide +kernel
theorem dX7_init_4 : decode cX7_init 4 = .ok (.aload_n 0, 1) := by decide +kernel
theorem dX7_init_5 : decode cX7_init 5 = .ok (.sipush 158, 3) := by decide +kernel
theorem dX7_init_8 : decode cX7_init 8 = .ok (.newarray .int, 2) := by decide +kernel
theorem dX7_init_10 : decode cX7_init 10 = .ok (.putfield 7, 3) := by decide +kernel
theorem dX7_init_13 : decode cX7_init 13 = .ok (.aload_n 0, 1) := by decide +kernel
theorem dX7_init_14 : decode cX7_init 14 = .ok (.sipush 158, 3) := by decide +kernel
theorem dX7_init_17 : decode cX7_init 17 = .ok (.newarray .int, 2) := by decide +kernel
theorem dX7_init_19 : decode cX7_init 19 = .ok (.putfield 13, 3) := by decide +kernel
theorem dX7_init_22 : decode cX7_init 22 = .ok (.aload_n 0, 1) := by decide +kernel
theorem dX7_init_23 : decode cX7_init 23 = .ok (.sipush 948, 3) := by decide +kernel
theorem dX7_init_26 : decode cX7_init 26 = .ok (.newarray .int, 2) := by decide +kernel
theorem dX7_init_28 : decode cX7_init 28 = .ok (.putfield 16, 3) := by decide +kernel
theorem dX7_init_31 : decode cX7_init 31 = .ok (.aload_n 0, 1) := by decide +kernel
theorem dX7_init_32 : decode cX7_init 32 = .ok (.bipush 60, 2) := by decide +kernel
theorem dX7_init_34 : decode cX7_init 34 = .ok (.newarray .int, 2) := by decide +kernel
theorem dX7_init_36 : decode cX7_init 36 = .ok (.putfield 19, 3) := by decide +kernel
theorem dX7_init_39 : decode cX7_init 39 = .ok (.aload_n 0, 1) := by decide +kernel
theorem dX7_init_40 : decode cX7_init 40 = .ok (.bipush 96, 2) := by decide +kernel
theorem dX7_init_42 : decode cX7_init 42 = .ok (.newarray .int, 2) := by decide +kernel
theorem dX7_init_44 : decode cX7_init 44 = .ok (.putfield 22, 3) := by decide +kernel
theorem dX7_init_47 : decode cX7_init 47 = .ok (.aload_n 0, 1) := by decide +kernel
theorem dX7_init_48 : decode cX7_init 48 = .ok (.iconst 0, 1) := by decide +kernel
theorem dX7_init_49 : decode cX7_init 49 = .ok (.putfield 25, 3) := by decide +kernel
theorem dX7_init_52 : decode cX7_init 52 = .ok (.aload_n 0, 1) := by decide +kernel
theorem dX7_init_53 : decode cX7_init 53 = .ok (.getfield 7, 3) := by decide +kernel
theorem dX7_init_56 : decode cX7_init 56 = .ok (.iconst 0, 1) := by decide +kernel
theorem dX7_init_57 : decode cX7_init 57 = .ok (.sipush 150, 3) := by decide +kernel
theorem dX7_init_60 : decode cX7_init 60 = .ok (.iastore, 1) := by decide +kernel
theorem dX7_init_61 : decode cX7_init 61 = .ok (.aload_n 0, 1) := by decide +kernel
theorem dX7_init_62 : decode cX7_init 62 = .ok (.getfield 7, 3) := by decide +kernel
theorem dX7_init_65 : decode cX7_init 65 = .ok (.iconst 1, 1) := by decide +kernel
theorem dX7_init_66 : decode cX7_init 66 = .ok (.bipush 40, 2) := by decide +kernel
theorem dX7_init_68 : decode cX7_init 68 = .ok (.iastore, 1) := by decide +kernel
theorem dX7_init_69 : decode cX7_init 69 = .ok (.aload_n 0, 1) := by decide +kernel
theorem dX7_init_70 : decode cX7_init 70 = .ok (.getfield 7, 3) := by decide +kernel
theorem dX7_init_73 : decode cX7_init 73 = .ok (.iconst 2, 1) := by decide +kernel
theorem dX7_init_74 : decode cX7_init 74 = .ok (.iconst 1, 1) := by decide +kernel
theorem dX7_init_75 : decode cX7_init 75 = .ok (.iastore, 1) := by decide +kernel
theorem dX7_init_76 : decode cX7_init 76 = .ok (.aload_n 0, 1) := by decide +kernel
theorem dX7_init_77 : decode cX7_init 77 = .ok (.getfield 7, 3) := by decide +kernel
theorem dX7_init_80 : decode cX7_init 80 = .ok (.iconst 3, 1) := by decide +kernel
theorem dX7_init_81 : decode cX7_init 81 = .ok (.iconst 5, 1) := by decide +kernel
theorem dX7_init_82 : decode cX7_init 82 = .ok (.iastore, 1) := by decide +kernel
theorem dX7_init_83 : decode cX7_init 83 = .ok (.iconst 0, 1) := by decide +kernel
theorem dX7_init_84 : decode cX7_init 84 = .ok (.istore_n 1, 1) := by decide +kernel
theorem dX7_init_85 : decode cX7_init 85 = .ok (.iload_n 1, 1) := by decide +kernel
theorem dX7_init_86 : decode cX7_init 86 = .ok (.iconst 4, 1) := by decide +kernel
theorem dX7_init_87 : decode cX7_init 87 = .ok (.if_icmp .ge 41, 3) := by decide +kernel
theorem dX7_init_90 : decode cX7_init 90 = .ok (.aload_n 0, 1) := by decide +kernel
theorem dX7_init_91 : decode cX7_init 91 = .ok (.getfield 7, 3) := by decide +kernel
theorem dX7_init_94 : decode cX7_init 94 = .ok (.bipush 15, 2) := by decide +kernel
theorem dX7_init_96 : decode cX7_init 96 = .ok (.iconst 5, 1) := by decide +kernel
theorem dX7_init_97 : decode cX7_init 97 = .ok (.iload_n 1, 1) := by decide +kernel
theorem dX7_init_98 : decode cX7_init 98 = .ok (.imul, 1) := by decide +kernel
theorem dX7_init_99 : decode cX7_init 99 = .ok (.iadd, 1) := by decide +kernel
theorem dX7_init_100 : decode cX7_init 100 = .ok (.iconst 1, 1) := by decide +kernel
theorem dX7_init_101 : decode cX7_init 101 = .ok (.iadd, 1) := by decide +kernel
theorem dX7_init_102 : decode cX7_init 102 = .ok (.sipush 900, 3) := by decide +kernel
theorem dX7_init_105 : decode cX7_init 105 = .ok (.iastore, 1) := by decide +kernel
theorem dX7_init_106 : decode cX7_init 106 = .ok (.aload_n 0, 1) := by decide +kernel
theorem dX7_init_107 : decode cX7_init 107 = .ok (.getfield 7, 3) := by decide +kernel
theorem dX7_init_110 : decode cX7_init 110 = .ok (.bipush 15, 2) := by decide +kernel
theorem dX7_init_112 : decode cX7_init 112 = .ok (.iconst 5, 1) := by decide +kernel
theorem dX7_init_113 : decode cX7_init 113 = .ok (.iload_n 1, 1) := by decide +kernel
theorem dX7_init_114 : decode cX7_init 114 = .ok (.imul, 1) := by decide +kernel
theorem dX7_init_115 : decode cX7_init 115 = .ok (.iadd, 1) := by decide +kernel
theorem dX7_init_116 : decode cX7_init 116 = .ok (.iconst 2, 1) := by decide +kernel
theorem dX7_init_117 : decode cX7_init 117 = .ok (.iadd, 1) := by decide +kernel
theorem dX7_init_118 : decode cX7_init 118 = .ok (.sipush 1100, 3) := by decide +kernel
theorem dX7_init_121 : decode cX7_init 121 = .ok (.iastore, 1) := by decide +kernel
theorem dX7_init_122 : decode cX7_init 122 = .ok (.iinc 1 1, 3) := by decide +kernel
theorem dX7_init_125 : decode cX7_init 125 = .ok (.goto (-40), 3) := by decide +kernel
theorem dX7_init_128 : decode cX7_init 128 = .ok (.iconst 0, 1) := by decide +kernel
theorem dX7_init_129 : decode cX7_init 129 = .ok (.istore_n 1, 1) := by decide +kernel
theorem dX7_init_130 : decode cX7_init 130 = .ok (.iload_n 1, 1) := by decide +kernel
theorem dX7_init_131 : decode cX7_init 131 = .ok (.iconst 5, 1) := by decide +kernel
theorem dX7_init_132 : decode cX7_init 132 = .ok (.if_icmp .ge 38, 3) := by decide +kernel
theorem dX7_init_135 : decode cX7_init 135 = .ok (.aload_n 0, 1) := by decide +kernel
theorem dX7_init_136 : decode cX7_init 136 = .ok (.getfield 7, 3) := by decide +kernel
theorem dX7_init_139 : decode cX7_init 139 = .ok (.bipush 35, 2) := by decide +kernel
theorem dX7_init_141 : decode cX7_init 141 = .ok (.iconst 5, 1) := by decide +kernel
theorem dX7_init_142 : decode cX7_init 142 = .ok (.iload_n 1, 1) := by decide +kernel
theorem dX7_init_143 : decode cX7_init 143 = .ok (.imul, 1) := by decide +kernel
theorem dX7_init_144 : decode cX7_init 144 = .ok (.iadd, 1) := by decide +kernel
theorem dX7_init_145 : decode cX7_init 145 = .ok (.iconst 0, 1) := by decide +kernel
theorem dX7_init_146 : decode cX7_init 146 = .ok (.iadd, 1) := by decide +kernel
theorem dX7_init_147 : decode cX7_init 147 = .ok (.iconst 3, 1) := by decide +kernel
theorem dX7_init_148 : decode cX7_init 148 = .ok (.iastore, 1) := by decide +kernel
theorem dX7_init_149 : decode cX7_init 149 = .ok (.aload_n 0, 1) := by decide +kernel
theorem dX7_init_150 : decode cX7_init 150 = .ok (.getfield 7, 3) := by decide +kernel
theorem dX7_init_153 : decode cX7_init 153 = .ok (.bipush 35, 2) := by decide +kernel
theorem dX7_init_155 : decode cX7_init 155 = .ok (.iconst 5, 1) := by decide +kernel
theorem dX7_init_156 : decode cX7_init 156 = .ok (.iload_n 1, 1) := by decide +kernel
theorem dX7_init_157 : decode cX7_init 157 = .ok (.imul, 1) := by decide +kernel
theorem dX7_init_158 : decode cX7_init 158 = .ok (.iadd, 1) := by decide +kernel
theorem dX7_init_159 : decode cX7_init 159 = .ok (.iconst 1, 1) := by decide +kernel
theorem dX7_init_160 : decode cX7_init 160 = .ok (.iadd, 1) := by decide +kernel
theorem dX7_init_161 : decode cX7_init 161 = .ok (.bipush 60, 2) := by decide +kernel
theorem dX7_init_163 : decode cX7_init 163 = .ok (.iastore, 1) := by decide +kernel
theorem dX7_init_164 : decode cX7_init 164 = .ok (.iinc 1 1, 3) := by decide +kernel
theorem dX7_init_167 : decode cX7_init 167 = .ok (.goto (-37), 3) := by decide +kernel
theorem dX7_init_170 : decode cX7_init 170 = .ok (.return_, 1) := by decide +kernel
theorem dX7_thrown_0 : decode cX7_thrown 0 = .ok (.aload_n 0, 1) := by decide +kernel
theorem dX7_thrown_1 : decode cX7_thrown 1 = .ok (.getfield 25, 3) := by decide +kernel
theorem dX7_thrown_4 : decode cX7_thrown 4 = .ok (.ireturn, 1) := by decide +kernel
theorem dX7_in_0 : decode cX7_in 0 = .ok (.iload_n 0, 1) := by decide +kernel
theorem dX7_in_1 : decode cX7_in 1 = .ok (.iload_n 1, 1) := by decide +kernel
theorem dX7_in_2 : decode cX7_in 2 = .ok (.if_icmp .lt 12, 3) := by decide +kernel
theorem dX7_in_5 : decode cX7_in 5 = .ok (.iload_n 0, 1) := by decide +kernel
theorem dX7_in_6 : decode cX7_in 6 = .ok (.iload_n 2, 1) := by decide +kernel
theorem dX7_in_7 : decode cX7_in 7 = .ok (.if_icmp .gt 7, 3) := by decide +kernel
theorem dX7_in_10 : decode cX7_in 10 = .ok (.iconst 1, 1) := by decide +kernel
theorem dX7_in_11 : decode cX7_in 11 = .ok (.goto 4, 3) := by decide +kernel
theorem dX7_in_14 : decode cX7_in 14 = .ok (.iconst 0, 1) := by decide +kernel
theorem dX7_in_15 : decode cX7_in 15 = .ok (.ireturn, 1) := by decide +kernel
theorem dX7_fails_0 : decode cX7_fails 0 = .ok (.aload_n 0, 1) := by decide +kernel
theorem dX7_fails_1 : decode cX7_fails 1 = .ok (.iload_n 1, 1) := by decide +kernel
theorem dX7_fails_2 : decode cX7_fails 2 = .ok (.putfield 25, 3) := by decide +kernel
theorem dX7_fails_5 : decode cX7_fails 5 = .ok (.iconst 0, 1) := by decide +kernel
theorem dX7_fails_6 : decode cX7_fails 6 = .ok (.ireturn, 1) := by decide +kernel
theorem dX7_isHeat_0 : decode cX7_isHeat 0 = .ok (.iload_n 0, 1) := by decide +kernel
theorem dX7_isHeat_1 : decode cX7_isHeat 1 = .ok (.iconst 0, 1) := by decide +kernel
theorem dX7_isHeat_2 : decode cX7_isHeat 2 = .ok (.iconst 3, 1) := by decide +kernel
theorem dX7_isHeat_3 : decode cX7_isHeat 3 = .ok (.invokestatic 29, 3) := by decide +kernel
theorem dX7_isHeat_6 : decode cX7_isHeat 6 = .ok (.ireturn, 1) := by decide +kernel
theorem dX7_isDie_0 : decode cX7_isDie 0 = .ok (.iload_n 0, 1) := by decide +kernel
theorem dX7_isDie_1 : decode cX7_isDie 1 = .ok (.iconst 0, 1) := by decide +kernel
theorem dX7_isDie_2 : decode cX7_isDie 2 = .ok (.iconst 4, 1) := by decide +kernel
theorem dX7_isDie_3 : decode cX7_isDie 3 = .ok (.invokestatic 29, 3) := by decide +kernel
theorem dX7_isDie_6 : decode cX7_isDie 6 = .ok (.ireturn, 1) := by decide +kernel
theorem dX7_saves_0 : decode cX7_saves 0 = .ok (.aload_n 0, 1) := by decide +kernel
theorem dX7_saves_1 : decode cX7_saves 1 = .ok (.getfield 33, 3) := by decide +kernel
theorem dX7_saves_4 : decode cX7_saves 4 = .ok (.bipush 6, 2) := by decide +kernel
theorem dX7_saves_6 : decode cX7_saves 6 = .ok (.if_icmp .ne 44, 3) := by decide +kernel
theorem dX7_saves_9 : decode cX7_saves 9 = .ok (.iconst 0, 1) := by decide +kernel
theorem dX7_saves_10 : decode cX7_saves 10 = .ok (.istore_n 1, 1) := by decide +kernel
theorem dX7_saves_11 : decode cX7_saves 11 = .ok (.iload_n 1, 1) := by decide +kernel
theorem dX7_saves_12 : decode cX7_saves 12 = .ok (.sipush 790, 3) := by decide +kernel
theorem dX7_saves_15 : decode cX7_saves 15 = .ok (.if_icmp .ge 25, 3) := by decide +kernel
theorem dX7_saves_18 : decode cX7_saves 18 = .ok (.aload_n 0, 1) := by decide +kernel
theorem dX7_saves_19 : decode cX7_saves 19 = .ok (.getfield 16, 3) := by decide +kernel
theorem dX7_saves_22 : decode cX7_saves 22 = .ok (.iload_n 1, 1) := by decide +kernel
theorem dX7_saves_23 : decode cX7_saves 23 = .ok (.aload_n 0, 1) := by decide +kernel
theorem dX7_saves_24 : decode cX7_saves 24 = .ok (.getfield 16, 3) := by decide +kernel
theorem dX7_saves_27 : decode cX7_saves 27 = .ok (.iload_n 1, 1) := by decide +kernel
theorem dX7_saves_28 : decode cX7_saves 28 = .ok (.sipush 158, 3) := by decide +kernel
theorem dX7_saves_31 : decode cX7_saves 31 = .ok (.iadd, 1) := by decide +kernel
theorem dX7_saves_32 : decode cX7_saves 32 = .ok (.iaload, 1) := by decide +kernel
theorem dX7_saves_33 : decode cX7_saves 33 = .ok (.iastore, 1) := by decide +kernel
theorem dX7_saves_34 : decode cX7_saves 34 = .ok (.iinc 1 1, 3) := by decide +kernel
theorem dX7_saves_37 : decode cX7_saves 37 = .ok (.goto (-26), 3) := by decide +kernel
theorem dX7_saves_40 : decode cX7_saves 40 = .ok (.aload_n 0, 1) := by decide +kernel
theorem dX7_saves_41 : decode cX7_saves 41 = .ok (.dup, 1) := by decide +kernel
theorem dX7_saves_42 : decode cX7_saves 42 = .ok (.getfield 33, 3) := by decide +kernel
theorem dX7_saves_45 : decode cX7_saves 45 = .ok (.iconst 1, 1) := by decide +kernel
theorem dX7_saves_46 : decode cX7_saves 46 = .ok (.isub, 1) := by decide +kernel
theorem dX7_saves_47 : decode cX7_saves 47 = .ok (.putfield 33, 3) := by decide +kernel
theorem dX7_saves_50 : decode cX7_saves 50 = .ok (.iconst 0, 1) := by decide +kernel
theorem dX7_saves_51 : decode cX7_saves 51 = .ok (.istore_n 1, 1) := by decide +kernel
theorem dX7_saves_52 : decode cX7_saves 52 = .ok (.iload_n 1, 1) := by decide +kernel
theorem dX7_saves_53 : decode cX7_saves 53 = .ok (.sipush 158, 3) := by decide +kernel
theorem dX7_saves_56 : decode cX7_saves 56 = .ok (.if_icmp .ge 30, 3) := by decide +kernel
theorem dX7_saves_59 : decode cX7_saves 59 = .ok (.aload_n 0, 1) := by decide +kernel
theorem dX7_saves_60 : decode cX7_saves 60 = .ok (.getfield 16, 3) := by decide +kernel
theorem dX7_saves_63 : decode cX7_saves 63 = .ok (.sipush 158, 3) := by decide +kernel
theorem dX7_saves_66 : decode cX7_saves 66 = .ok (.aload_n 0, 1) := by decide +kernel
theorem dX7_saves_67 : decode cX7_saves 67 = .ok (.getfield 33, 3) := by decide +kernel
theorem dX7_saves_70 : decode cX7_saves 70 = .ok (.imul, 1) := by decide +kernel
theorem dX7_saves_71 : decode cX7_saves 71 = .ok (.iload_n 1, 1) := by decide +kernel
theorem dX7_saves_72 : decode cX7_saves 72 = .ok (.iadd, 1) := by decide +kernel
theorem dX7_saves_73 : decode cX7_saves 73 = .ok (.aload_n 0, 1) := by decide +kernel
theorem dX7_saves_74 : decode cX7_saves 74 = .ok (.getfield 7, 3) := by decide +kernel
theorem dX7_saves_77 : decode cX7_saves 77 = .ok (.iload_n 1, 1) := by decide +kernel
theorem dX7_saves_78 : decode cX7_saves 78 = .ok (.iaload, 1) := by decide +kernel
theorem dX7_saves_79 : decode cX7_saves 79 = .ok (.iastore, 1) := by decide +kernel
theorem dX7_saves_80 : decode cX7_saves 80 = .ok (.iinc 1 1, 3) := by decide +kernel
theorem dX7_saves_83 : decode cX7_saves 83 = .ok (.goto (-31), 3) := by decide +kernel
theorem dX7_saves_86 : decode cX7_saves 86 = .ok (.aload_n 0, 1) := by decide +kernel
theorem dX7_saves_87 : decode cX7_saves 87 = .ok (.dup, 1) := by decide +kernel
theorem dX7_saves_88 : decode cX7_saves 88 = .ok (.getfield 33, 3) := by decide +kernel
theorem dX7_saves_91 : decode cX7_saves 91 = .ok (.iconst 1, 1) := by decide +kernel
theorem dX7_saves_92 : decode cX7_saves 92 = .ok (.iadd, 1) := by decide +kernel
theorem dX7_saves_93 : decode cX7_saves 93 = .ok (.putfield 33, 3) := by decide +kernel
theorem dX7_saves_96 : decode cX7_saves 96 = .ok (.return_, 1) := by decide +kernel
theorem dX7_putAside_0 : decode cX7_putAside 0 = .ok (.iconst 0, 1) := by decide +kernel
theorem dX7_putAside_1 : decode cX7_putAside 1 = .ok (.istore_n 1, 1) := by decide +kernel
theorem dX7_putAside_2 : decode cX7_putAside 2 = .ok (.iload_n 1, 1) := by decide +kernel
theorem dX7_putAside_3 : decode cX7_putAside 3 = .ok (.sipush 158, 3) := by decide +kernel
theorem dX7_putAside_6 : decode cX7_putAside 6 = .ok (.if_icmp .ge 21, 3) := by decide +kernel
theorem dX7_putAside_9 : decode cX7_putAside 9 = .ok (.aload_n 0, 1) := by decide +kernel
theorem dX7_putAside_10 : decode cX7_putAside 10 = .ok (.getfield 13, 3) := by decide +kernel
theorem dX7_putAside_13 : decode cX7_putAside 13 = .ok (.iload_n 1, 1) := by decide +kernel
theorem dX7_putAside_14 : decode cX7_putAside 14 = .ok (.aload_n 0, 1) := by decide +kernel
theorem dX7_putAside_15 : decode cX7_putAside 15 = .ok (.getfield 7, 3) := by decide +kernel
theorem dX7_putAside_18 : decode cX7_putAside 18 = .ok (.iload_n 1, 1) := by decide +kernel
theorem dX7_putAside_19 : decode cX7_putAside 19 = .ok (.iaload, 1) := by decide +kernel
theorem dX7_putAside_20 : decode cX7_putAside 20 = .ok (.iastore, 1) := by decide +kernel
theorem dX7_putAside_21 : decode cX7_putAside 21 = .ok (.iinc 1 1, 3) := by decide +kernel
theorem dX7_putAside_24 : decode cX7_putAside 24 = .ok (.goto (-22), 3) := by decide +kernel
theorem dX7_putAside_27 : decode cX7_putAside 27 = .ok (.return_, 1) := by decide +kernel
theorem dX7_takeBack_0 : decode cX7_takeBack 0 = .ok (.iconst 0, 1) := by decide +kernel
theorem dX7_takeBack_1 : decode cX7_takeBack 1 = .ok (.istore_n 1, 1) := by decide +kernel
theorem dX7_takeBack_2 : decode cX7_takeBack 2 = .ok (.iload_n 1, 1) := by decide +kernel
theorem dX7_takeBack_3 : decode cX7_takeBack 3 = .ok (.sipush 158, 3) := by decide +kernel
theorem dX7_takeBack_6 : decode cX7_takeBack 6 = .ok (.if_icmp .ge 21, 3) := by decide +kernel
theorem dX7_takeBack_9 : decode cX7_takeBack 9 = .ok (.aload_n 0, 1) := by decide +kernel
theorem dX7_takeBack_10 : decode cX7_takeBack 10 = .ok (.getfield 7, 3) := by decide +kernel
theorem dX7_takeBack_13 : decode cX7_takeBack 13 = .ok (.iload_n 1, 1) := by decide +kernel
theorem dX7_takeBack_14 : decode cX7_takeBack 14 = .ok (.aload_n 0, 1) := by decide +kernel
theorem dX7_takeBack_15 : decode cX7_takeBack 15 = .ok (.getfield 13, 3) := by decide +kernel
theorem dX7_takeBack_18 : decode cX7_takeBack 18 = .ok (.iload_n 1, 1) := by decide +kernel
theorem dX7_takeBack_19 : decode cX7_takeBack 19 = .ok (.iaload, 1) := by decide +kernel
theorem dX7_takeBack_20 : decode cX7_takeBack 20 = .ok (.iastore, 1) := by decide +kernel
theorem dX7_takeBack_21 : decode cX7_takeBack 21 = .ok (.iinc 1 1, 3) := by decide +kernel
theorem dX7_takeBack_24 : decode cX7_takeBack 24 = .ok (.goto (-22), 3) := by decide +kernel
theorem dX7_takeBack_27 : decode cX7_takeBack 27 = .ok (.return_, 1) := by decide +kernel
theorem dX7_heatOf_0 : decode cX7_heatOf 0 = .ok (.aload_n 0, 1) := by decide +kernel
theorem dX7_heatOf_1 : decode cX7_heatOf 1 = .ok (.getfield 7, 3) := by decide +kernel
theorem dX7_heatOf_4 : decode cX7_heatOf 4 = .ok (.bipush 15, 2) := by decide +kernel
theorem dX7_heatOf_6 : decode cX7_heatOf 6 = .ok (.iconst 5, 1) := by decide +kernel
theorem dX7_heatOf_7 : decode cX7_heatOf 7 = .ok (.iload_n 1, 1) := by decide +kernel
theorem dX7_heatOf_8 : decode cX7_heatOf 8 = .ok (.imul, 1) := by decide +kernel
theorem dX7_heatOf_9 : decode cX7_heatOf 9 = .ok (.iadd, 1) := by decide +kernel
theorem dX7_heatOf_10 : decode cX7_heatOf 10 = .ok (.iload_n 2, 1) := by decide +kernel
theorem dX7_heatOf_11 : decode cX7_heatOf 11 = .ok (.iadd, 1) := by decide +kernel
theorem dX7_heatOf_12 : decode cX7_heatOf 12 = .ok (.iaload, 1) := by decide +kernel
theorem dX7_heatOf_13 : decode cX7_heatOf 13 = .ok (.ireturn, 1) := by decide +kernel
theorem dX7_die0_0 : decode cX7_die0 0 = .ok (.aload_n 0, 1) := by decide +kernel
theorem dX7_die0_1 : decode cX7_die0 1 = .ok (.getfield 7, 3) := by decide +kernel
theorem dX7_die0_4 : decode cX7_die0 4 = .ok (.bipush 35, 2) := by decide +kernel
theorem dX7_die0_6 : decode cX7_die0 6 = .ok (.iconst 5, 1) := by decide +kernel
theorem dX7_die0_7 : decode cX7_die0 7 = .ok (.iload_n 1, 1) := by decide +kernel
theorem dX7_die0_8 : decode cX7_die0 8 = .ok (.imul, 1) := by decide +kernel
theorem dX7_die0_9 : decode cX7_die0 9 = .ok (.iadd, 1) := by decide +kernel
theorem dX7_die0_10 : decode cX7_die0 10 = .ok (.iload_n 2, 1) := by decide +kernel
theorem dX7_die0_11 : decode cX7_die0 11 = .ok (.iadd, 1) := by decide +kernel
theorem dX7_die0_12 : decode cX7_die0 12 = .ok (.iaload, 1) := by decide +kernel
theorem dX7_die0_13 : decode cX7_die0 13 = .ok (.ireturn, 1) := by decide +kernel
theorem dX7_job0_0 : decode cX7_job0 0 = .ok (.aload_n 0, 1) := by decide +kernel
theorem dX7_job0_1 : decode cX7_job0 1 = .ok (.getfield 7, 3) := by decide +kernel
theorem dX7_job0_4 : decode cX7_job0 4 = .ok (.bipush 60, 2) := by decide +kernel
theorem dX7_job0_6 : decode cX7_job0 6 = .ok (.bipush 7, 2) := by decide +kernel
theorem dX7_job0_8 : decode cX7_job0 8 = .ok (.iload_n 1, 1) := by decide +kernel
theorem dX7_job0_9 : decode cX7_job0 9 = .ok (.imul, 1) := by decide +kernel
theorem dX7_job0_10 : decode cX7_job0 10 = .ok (.iadd, 1) := by decide +kernel
theorem dX7_job0_11 : decode cX7_job0 11 = .ok (.iload_n 2, 1) := by decide +kernel
theorem dX7_job0_12 : decode cX7_job0 12 = .ok (.iadd, 1) := by decide +kernel
theorem dX7_job0_13 : decode cX7_job0 13 = .ok (.iaload, 1) := by decide +kernel
theorem dX7_job0_14 : decode cX7_job0 14 = .ok (.ireturn, 1) := by decide +kernel
theorem dX7_billet0_0 : decode cX7_billet0 0 = .ok (.aload_n 0, 1) := by decide +kernel
theorem dX7_billet0_1 : decode cX7_billet0 1 = .ok (.getfield 7, 3) := by decide +kernel
theorem dX7_billet0_4 : decode cX7_billet0 4 = .ok (.sipush 130, 3) := by decide +kernel
theorem dX7_billet0_7 : decode cX7_billet0 7 = .ok (.iconst 4, 1) := by decide +kernel
theorem dX7_billet0_8 : decode cX7_billet0 8 = .ok (.iload_n 1, 1) := by decide +kernel
theorem dX7_billet0_9 : decode cX7_billet0 9 = .ok (.imul, 1) := by decide +kernel
theorem dX7_billet0_10 : decode cX7_billet0 10 = .ok (.iadd, 1) := by decide +kernel
theorem dX7_billet0_11 : decode cX7_billet0 11 = .ok (.iload_n 2, 1) := by decide +kernel
theorem dX7_billet0_12 : decode cX7_billet0 12 = .ok (.iadd, 1) := by decide +kernel
theorem dX7_billet0_13 : decode cX7_billet0 13 = .ok (.iaload, 1) := by decide +kernel
theorem dX7_billet0_14 : decode cX7_billet0 14 = .ok (.ireturn, 1) := by decide +kernel
theorem dX7_lay_0 : decode cX7_lay 0 = .ok (.aload_n 0, 1) := by decide +kernel
theorem dX7_lay_1 : decode cX7_lay 1 = .ok (.getfield 7, 3) := by decide +kernel
theorem dX7_lay_4 : decode cX7_lay 4 = .ok (.sipush 130, 3) := by decide +kernel
theorem dX7_lay_7 : decode cX7_lay 7 = .ok (.iconst 4, 1) := by decide +kernel
theorem dX7_lay_8 : decode cX7_lay 8 = .ok (.iload_n 1, 1) := by decide +kernel
theorem dX7_lay_9 : decode cX7_lay 9 = .ok (.imul, 1) := by decide +kernel
theorem dX7_lay_10 : decode cX7_lay 10 = .ok (.iadd, 1) := by decide +kernel
theorem dX7_lay_11 : decode cX7_lay 11 = .ok (.iload_n 2, 1) := by decide +kernel
theorem dX7_lay_12 : decode cX7_lay 12 = .ok (.iadd, 1) := by decide +kernel
theorem dX7_lay_13 : decode cX7_lay 13 = .ok (.iload_n 3, 1) := by decide +kernel
theorem dX7_lay_14 : decode cX7_lay 14 = .ok (.iastore, 1) := by decide +kernel
theorem dX7_lay_15 : decode cX7_lay 15 = .ok (.return_, 1) := by decide +kernel
theorem dX7_isBeingGround_0 : decode cX7_isBeingGround 0 = .ok (.aload_n 0, 1) := by decide +kernel
theorem dX7_isBeingGround_1 : decode cX7_isBeingGround 1 = .ok (.getfield 7, 3) := by decide +kernel
theorem dX7_isBeingGround_4 : decode cX7_isBeingGround 4 = .ok (.bipush 13, 2) := by decide +kernel
theorem dX7_isBeingGround_6 : decode cX7_isBeingGround 6 = .ok (.iaload, 1) := by decide +kernel
theorem dX7_isBeingGround_7 : decode cX7_isBeingGround 7 = .ok (.iload_n 1, 1) := by decide +kernel
theorem dX7_isBeingGround_8 : decode cX7_isBeingGround 8 = .ok (.iconst 1, 1) := by decide +kernel
theorem dX7_isBeingGround_9 : decode cX7_isBeingGround 9 = .ok (.iadd, 1) := by decide +kernel
theorem dX7_isBeingGround_10 : decode cX7_isBeingGround 10 = .ok (.if_icmp .ne 7, 3) := by decide +kernel
theorem dX7_isBeingGround_13 : decode cX7_isBeingGround 13 = .ok (.iconst 1, 1) := by decide +kernel
theorem dX7_isBeingGround_14 : decode cX7_isBeingGround 14 = .ok (.goto 4, 3) := by decide +kernel
theorem dX7_isBeingGround_17 : decode cX7_isBeingGround 17 = .ok (.iconst 0, 1) := by decide +kernel
theorem dX7_isBeingGround_18 : decode cX7_isBeingGround 18 = .ok (.ireturn, 1) := by decide +kernel
theorem dX7_isWornOut_0 : decode cX7_isWornOut 0 = .ok (.aload_n 0, 1) := by decide +kernel
theorem dX7_isWornOut_1 : decode cX7_isWornOut 1 = .ok (.iload_n 1, 1) := by decide +kernel
theorem dX7_isWornOut_2 : decode cX7_isWornOut 2 = .ok (.iconst 2, 1) := by decide +kernel
theorem dX7_isWornOut_3 : decode cX7_isWornOut 3 = .ok (.invokevirtual 36, 3) := by decide +kernel
theorem dX7_isWornOut_6 : decode cX7_isWornOut 6 = .ok (.aload_n 0, 1) := by decide +kernel
theorem dX7_isWornOut_7 : decode cX7_isWornOut 7 = .ok (.iload_n 1, 1) := by decide +kernel
theorem dX7_isWornOut_8 : decode cX7_isWornOut 8 = .ok (.iconst 1, 1) := by decide +kernel
theorem dX7_isWornOut_9 : decode cX7_isWornOut 9 = .ok (.invokevirtual 36, 3) := by decide +kernel
theorem dX7_isWornOut_12 : decode cX7_isWornOut 12 = .ok (.if_icmp .lt 7, 3) := by decide +kernel
theorem dX7_isWornOut_15 : decode cX7_isWornOut 15 = .ok (.iconst 1, 1) := by decide +kernel
theorem dX7_isWornOut_16 : decode cX7_isWornOut 16 = .ok (.goto 4, 3) := by decide +kernel
theorem dX7_isWornOut_19 : decode cX7_isWornOut 19 = .ok (.iconst 0, 1) := by decide +kernel
theorem dX7_isWornOut_20 : decode cX7_isWornOut 20 = .ok (.ireturn, 1) := by decide +kernel
theorem dX7_isFit_0 : decode cX7_isFit 0 = .ok (.aload_n 0, 1) := by decide +kernel
theorem dX7_isFit_1 : decode cX7_isFit 1 = .ok (.iload_n 1, 1) := by decide +kernel
theorem dX7_isFit_2 : decode cX7_isFit 2 = .ok (.invokevirtual 40, 3) := by decide +kernel
theorem dX7_isFit_5 : decode cX7_isFit 5 = .ok (.ifCond .ne 15, 3) := by decide +kernel
theorem dX7_isFit_8 : decode cX7_isFit 8 = .ok (.aload_n 0, 1) := by decide +kernel
theorem dX7_isFit_9 : decode cX7_isFit 9 = .ok (.iload_n 1, 1) := by decide +kernel
theorem dX7_isFit_10 : decode cX7_isFit 10 = .ok (.invokevirtual 44, 3) := by decide +kernel
theorem dX7_isFit_13 : decode cX7_isFit 13 = .ok (.ifCond .ne 7, 3) := by decide +kernel
theorem dX7_isFit_16 : decode cX7_isFit 16 = .ok (.iconst 1, 1) := by decide +kernel
theorem dX7_isFit_17 : decode cX7_isFit 17 = .ok (.goto 4, 3) := by decide +kernel
theorem dX7_isFit_20 : decode cX7_isFit 20 = .ok (.iconst 0, 1) := by decide +kernel
theorem dX7_isFit_21 : decode cX7_isFit 21 = .ok (.ireturn, 1) := by decide +kernel
theorem dX7_jobWith_0 : decode cX7_jobWith 0 = .ok (.iconst 0, 1) := by decide +kernel
theorem dX7_jobWith_1 : decode cX7_jobWith 1 = .ok (.istore_n 2, 1) := by decide +kernel
theorem dX7_jobWith_2 : decode cX7_jobWith 2 = .ok (.iload_n 2, 1) := by decide +kernel
theorem dX7_jobWith_3 : decode cX7_jobWith 3 = .ok (.aload_n 0, 1) := by decide +kernel
theorem dX7_jobWith_4 : decode cX7_jobWith 4 = .ok (.getfield 7, 3) := by decide +kernel
theorem dX7_jobWith_7 : decode cX7_jobWith 7 = .ok (.iconst 5, 1) := by decide +kernel
theorem dX7_jobWith_8 : decode cX7_jobWith 8 = .ok (.iaload, 1) := by decide +kernel
theorem dX7_jobWith_9 : decode cX7_jobWith 9 = .ok (.if_icmp .ge 21, 3) := by decide +kernel
theorem dX7_jobWith_12 : decode cX7_jobWith 12 = .ok (.aload_n 0, 1) := by decide +kernel
theorem dX7_jobWith_13 : decode cX7_jobWith 13 = .ok (.iload_n 2, 1) := by decide +kernel
theorem dX7_jobWith_14 : decode cX7_jobWith 14 = .ok (.iconst 0, 1) := by decide +kernel
theorem dX7_jobWith_15 : decode cX7_jobWith 15 = .ok (.invokevirtual 47, 3) := by decide +kernel
theorem dX7_jobWith_18 : decode cX7_jobWith 18 = .ok (.iload_n 1, 1) := by decide +kernel
theorem dX7_jobWith_19 : decode cX7_jobWith 19 = .ok (.if_icmp .ne 5, 3) := by decide +kernel
theorem dX7_jobWith_22 : decode cX7_jobWith 22 = .ok (.iload_n 2, 1) := by decide +kernel
theorem dX7_jobWith_23 : decode cX7_jobWith 23 = .ok (.ireturn, 1) := by decide +kernel
theorem dX7_jobWith_24 : decode cX7_jobWith 24 = .ok (.iinc 2 1, 3) := by decide +kernel
theorem dX7_jobWith_27 : decode cX7_jobWith 27 = .ok (.goto (-25), 3) := by decide +kernel
theorem dX7_jobWith_30 : decode cX7_jobWith 30 = .ok (.iconst (-1), 1) := by decide +kernel
theorem dX7_jobWith_31 : decode cX7_jobWith 31 = .ok (.ireturn, 1) := by decide +kernel
theorem dX7_isAhead_0 : decode cX7_isAhead 0 = .ok (.aload_n 0, 1) := by decide +kernel
theorem dX7_isAhead_1 : decode cX7_isAhead 1 = .ok (.iload_n 1, 1) := by decide +kernel
theorem dX7_isAhead_2 : decode cX7_isAhead 2 = .ok (.bipush 6, 2) := by decide +kernel
theorem dX7_isAhead_4 : decode cX7_isAhead 4 = .ok (.invokevirtual 47, 3) := by decide +kernel
theorem dX7_isAhead_7 : decode cX7_isAhead 7 = .ok (.aload_n 0, 1) := by decide +kernel
theorem dX7_isAhead_8 : decode cX7_isAhead 8 = .ok (.iload_n 2, 1) := by decide +kernel
theorem dX7_isAhead_9 : decode cX7_isAhead 9 = .ok (.bipush 6, 2) := by decide +kernel
theorem dX7_isAhead_11 : decode cX7_isAhead 11 = .ok (.invokevirtual 47, 3) := by decide +kernel
theorem dX7_isAhead_14 : decode cX7_isAhead 14 = .ok (.isub, 1) := by decide +kernel
theorem dX7_isAhead_15 : decode cX7_isAhead 15 = .ok (.istore_n 3, 1) := by decide +kernel
theorem dX7_isAhead_16 : decode cX7_isAhead 16 = .ok (.aload_n 0, 1) := by decide +kernel
theorem dX7_isAhead_17 : decode cX7_isAhead 17 = .ok (.iload_n 2, 1) := by decide +kernel
theorem dX7_isAhead_18 : decode cX7_isAhead 18 = .ok (.iconst 5, 1) := by decide +kernel
theorem dX7_isAhead_19 : decode cX7_isAhead 19 = .ok (.invokevirtual 47, 3) := by decide +kernel
theorem dX7_isAhead_22 : decode cX7_isAhead 22 = .ok (.aload_n 0, 1) := by decide +kernel
theorem dX7_isAhead_23 : decode cX7_isAhead 23 = .ok (.iload_n 1, 1) := by decide +kernel
theorem dX7_isAhead_24 : decode cX7_isAhead 24 = .ok (.iconst 5, 1) := by decide +kernel
theorem dX7_isAhead_25 : decode cX7_isAhead 25 = .ok (.invokevirtual 47, 3) := by decide +kernel
theorem dX7_isAhead_28 : decode cX7_isAhead 28 = .ok (.isub, 1) := by decide +kernel
theorem dX7_isAhead_29 : decode cX7_isAhead 29 = .ok (.istore 4, 2) := by decide +kernel
theorem dX7_isAhead_31 : decode cX7_isAhead 31 = .ok (.iload_n 3, 1) := by decide +kernel
theorem dX7_isAhead_32 : decode cX7_isAhead 32 = .ok (.ifCond .gt 22, 3) := by decide +kernel
theorem dX7_isAhead_35 : decode cX7_isAhead 35 = .ok (.iload_n 3, 1) := by decide +kernel
theorem dX7_isAhead_36 : decode cX7_isAhead 36 = .ok (.ifCond .ne 22, 3) := by decide +kernel
theorem dX7_isAhead_39 : decode cX7_isAhead 39 = .ok (.iload 4, 2) := by decide +kernel
theorem dX7_isAhead_41 : decode cX7_isAhead 41 = .ok (.ifCond .gt 13, 3) := by decide +kernel
theorem dX7_isAhead_44 : decode cX7_isAhead 44 = .ok (.iload 4, 2) := by decide +kernel
theorem dX7_isAhead_46 : decode cX7_isAhead 46 = .ok (.ifCond .ne 12, 3) := by decide +kernel
theorem dX7_isAhead_49 : decode cX7_isAhead 49 = .ok (.iload_n 1, 1) := by decide +kernel
theorem dX7_isAhead_50 : decode cX7_isAhead 50 = .ok (.iload_n 2, 1) := by decide +kernel
theorem dX7_isAhead_51 : decode cX7_isAhead 51 = .ok (.if_icmp .ge 7, 3) := by decide +kernel
theorem dX7_isAhead_54 : decode cX7_isAhead 54 = .ok (.iconst 1, 1) := by decide +kernel
theorem dX7_isAhead_55 : decode cX7_isAhead 55 = .ok (.goto 4, 3) := by decide +kernel
theorem dX7_isAhead_58 : decode cX7_isAhead 58 = .ok (.iconst 0, 1) := by decide +kernel
theorem dX7_isAhead_59 : decode cX7_isAhead 59 = .ok (.ireturn, 1) := by decide +kernel
theorem dX7_rankOf_0 : decode cX7_rankOf 0 = .ok (.iconst 0, 1) := by decide +kernel
theorem dX7_rankOf_1 : decode cX7_rankOf 1 = .ok (.istore_n 2, 1) := by decide +kernel
theorem dX7_rankOf_2 : decode cX7_rankOf 2 = .ok (.iconst 0, 1) := by decide +kernel
theorem dX7_rankOf_3 : decode cX7_rankOf 3 = .ok (.istore_n 3, 1) := by decide +kernel
theorem dX7_rankOf_4 : decode cX7_rankOf 4 = .ok (.iload_n 3, 1) := by decide +kernel
theorem dX7_rankOf_5 : decode cX7_rankOf 5 = .ok (.aload_n 0, 1) := by decide +kernel
theorem dX7_rankOf_6 : decode cX7_rankOf 6 = .ok (.getfield 7, 3) := by decide +kernel
theorem dX7_rankOf_9 : decode cX7_rankOf 9 = .ok (.iconst 5, 1) := by decide +kernel
theorem dX7_rankOf_10 : decode cX7_rankOf 10 = .ok (.iaload, 1) := by decide +kernel
theorem dX7_rankOf_11 : decode cX7_rankOf 11 = .ok (.if_icmp .ge 31, 3) := by decide +kernel
theorem dX7_rankOf_14 : decode cX7_rankOf 14 = .ok (.iload_n 2, 1) := by decide +kernel
theorem dX7_rankOf_15 : decode cX7_rankOf 15 = .ok (.iload_n 3, 1) := by decide +kernel
theorem dX7_rankOf_16 : decode cX7_rankOf 16 = .ok (.iload_n 1, 1) := by decide +kernel
theorem dX7_rankOf_17 : decode cX7_rankOf 17 = .ok (.if_icmp .eq 16, 3) := by decide +kernel
theorem dX7_rankOf_20 : decode cX7_rankOf 20 = .ok (.aload_n 0, 1) := by decide +kernel
theorem dX7_rankOf_21 : decode cX7_rankOf 21 = .ok (.iload_n 3, 1) := by decide +kernel
theorem dX7_rankOf_22 : decode cX7_rankOf 22 = .ok (.iload_n 1, 1) := by decide +kernel
theorem dX7_rankOf_23 : decode cX7_rankOf 23 = .ok (.invokevirtual 50, 3) := by decide +kernel
theorem dX7_rankOf_26 : decode cX7_rankOf 26 = .ok (.ifCond .eq 7, 3) := by decide +kernel
theorem dX7_rankOf_29 : decode cX7_rankOf 29 = .ok (.iconst 1, 1) := by decide +kernel
theorem dX7_rankOf_30 : decode cX7_rankOf 30 = .ok (.goto 4, 3) := by decide +kernel
theorem dX7_rankOf_33 : decode cX7_rankOf 33 = .ok (.iconst 0, 1) := by decide +kernel
theorem dX7_rankOf_34 : decode cX7_rankOf 34 = .ok (.iadd, 1) := by decide +kernel
theorem dX7_rankOf_35 : decode cX7_rankOf 35 = .ok (.istore_n 2, 1) := by decide +kernel
theorem dX7_rankOf_36 : decode cX7_rankOf 36 = .ok (.iinc 3 1, 3) := by decide +kernel
theorem dX7_rankOf_39 : decode cX7_rankOf 39 = .ok (.goto (-35), 3) := by decide +kernel
theorem dX7_rankOf_42 : decode cX7_rankOf 42 = .ok (.iload_n 2, 1) := by decide +kernel
theorem dX7_rankOf_43 : decode cX7_rankOf 43 = .ok (.ireturn, 1) := by decide +kernel
theorem dX7_jobAt_0 : decode cX7_jobAt 0 = .ok (.iconst 0, 1) := by decide +kernel
theorem dX7_jobAt_1 : decode cX7_jobAt 1 = .ok (.istore_n 2, 1) := by decide +kernel
theorem dX7_jobAt_2 : decode cX7_jobAt 2 = .ok (.iload_n 2, 1) := by decide +kernel
theorem dX7_jobAt_3 : decode cX7_jobAt 3 = .ok (.aload_n 0, 1) := by decide +kernel
theorem dX7_jobAt_4 : decode cX7_jobAt 4 = .ok (.getfield 7, 3) := by decide +kernel
theorem dX7_jobAt_7 : decode cX7_jobAt 7 = .ok (.iconst 5, 1) := by decide +kernel
theorem dX7_jobAt_8 : decode cX7_jobAt 8 = .ok (.iaload, 1) := by decide +kernel
theorem dX7_jobAt_9 : decode cX7_jobAt 9 = .ok (.if_icmp .ge 20, 3) := by decide +kernel
theorem dX7_jobAt_12 : decode cX7_jobAt 12 = .ok (.aload_n 0, 1) := by decide +kernel
theorem dX7_jobAt_13 : decode cX7_jobAt 13 = .ok (.iload_n 2, 1) := by decide +kernel
theorem dX7_jobAt_14 : decode cX7_jobAt 14 = .ok (.invokevirtual 54, 3) := by decide +kernel
theorem dX7_jobAt_17 : decode cX7_jobAt 17 = .ok (.iload_n 1, 1) := by decide +kernel
theorem dX7_jobAt_18 : decode cX7_jobAt 18 = .ok (.if_icmp .ne 5, 3) := by decide +kernel
theorem dX7_jobAt_21 : decode cX7_jobAt 21 = .ok (.iload_n 2, 1) := by decide +kernel
theorem dX7_jobAt_22 : decode cX7_jobAt 22 = .ok (.ireturn, 1) := by decide +kernel
theorem dX7_jobAt_23 : decode cX7_jobAt 23 = .ok (.iinc 2 1, 3) := by decide +kernel
theorem dX7_jobAt_26 : decode cX7_jobAt 26 = .ok (.goto (-24), 3) := by decide +kernel
theorem dX7_jobAt_29 : decode cX7_jobAt 29 = .ok (.iconst (-1), 1) := by decide +kernel
theorem dX7_jobAt_30 : decode cX7_jobAt 30 = .ok (.ireturn, 1) := by decide +kernel
theorem dX7_jobOn_0 : decode cX7_jobOn 0 = .ok (.aload_n 0, 1) := by decide +kernel
theorem dX7_jobOn_1 : decode cX7_jobOn 1 = .ok (.iload_n 1, 1) := by decide +kernel
theorem dX7_jobOn_2 : decode cX7_jobOn 2 = .ok (.iconst 0, 1) := by decide +kernel
theorem dX7_jobOn_3 : decode cX7_jobOn 3 = .ok (.invokevirtual 58, 3) := by decide +kernel
theorem dX7_jobOn_6 : decode cX7_jobOn 6 = .ok (.ifCond .ne 7, 3) := by decide +kernel
theorem dX7_jobOn_9 : decode cX7_jobOn 9 = .ok (.iconst (-1), 1) := by decide +kernel
theorem dX7_jobOn_10 : decode cX7_jobOn 10 = .ok (.goto 15, 3) := by decide +kernel
theorem dX7_jobOn_13 : decode cX7_jobOn 13 = .ok (.aload_n 0, 1) := by decide +kernel
theorem dX7_jobOn_14 : decode cX7_jobOn 14 = .ok (.aload_n 0, 1) := by decide +kernel
theorem dX7_jobOn_15 : decode cX7_jobOn 15 = .ok (.iload_n 1, 1) := by decide +kernel
theorem dX7_jobOn_16 : decode cX7_jobOn 16 = .ok (.iconst 0, 1) := by decide +kernel
theorem dX7_jobOn_17 : decode cX7_jobOn 17 = .ok (.invokevirtual 58, 3) := by decide +kernel
theorem dX7_jobOn_20 : decode cX7_jobOn 20 = .ok (.iconst 1, 1) := by decide +kernel
theorem dX7_jobOn_21 : decode cX7_jobOn 21 = .ok (.isub, 1) := by decide +kernel
theorem dX7_jobOn_22 : decode cX7_jobOn 22 = .ok (.invokevirtual 61, 3) := by decide +kernel
theorem dX7_jobOn_25 : decode cX7_jobOn 25 = .ok (.ireturn, 1) := by decide +kernel
theorem dX7_billetsOf_0 : decode cX7_billetsOf 0 = .ok (.iconst 0, 1) := by decide +kernel
theorem dX7_billetsOf_1 : decode cX7_billetsOf 1 = .ok (.istore 4, 2) := by decide +kernel
theorem dX7_billetsOf_3 : decode cX7_billetsOf 3 = .ok (.iload_n 2, 1) := by decide +kernel
theorem dX7_billetsOf_4 : decode cX7_billetsOf 4 = .ok (.istore 5, 2) := by decide +kernel
theorem dX7_billetsOf_6 : decode cX7_billetsOf 6 = .ok (.iload 5, 2) := by decide +kernel
theorem dX7_billetsOf_8 : decode cX7_billetsOf 8 = .ok (.iload_n 3, 1) := by decide +kernel
theorem dX7_billetsOf_9 : decode cX7_billetsOf 9 = .ok (.if_icmp .gt 29, 3) := by decide +kernel
theorem dX7_billetsOf_12 : decode cX7_billetsOf 12 = .ok (.iload 4, 2) := by decide +kernel
theorem dX7_billetsOf_14 : decode cX7_billetsOf 14 = .ok (.aload_n 0, 1) := by decide +kernel
theorem dX7_billetsOf_15 : decode cX7_billetsOf 15 = .ok (.iload 5, 2) := by decide +kernel
theorem dX7_billetsOf_17 : decode cX7_billetsOf 17 = .ok (.invokevirtual 64, 3) := by decide +kernel
theorem dX7_billetsOf_20 : decode cX7_billetsOf 20 = .ok (.iload_n 1, 1) := by decide +kernel
theorem dX7_billetsOf_21 : decode cX7_billetsOf 21 = .ok (.if_icmp .ne 7, 3) := by decide +kernel
theorem dX7_billetsOf_24 : decode cX7_billetsOf 24 = .ok (.iconst 1, 1) := by decide +kernel
theorem dX7_billetsOf_25 : decode cX7_billetsOf 25 = .ok (.goto 4, 3) := by decide +kernel
theorem dX7_billetsOf_28 : decode cX7_billetsOf 28 = .ok (.iconst 0, 1) := by decide +kernel
theorem dX7_billetsOf_29 : decode cX7_billetsOf 29 = .ok (.iadd, 1) := by decide +kernel
theorem dX7_billetsOf_30 : decode cX7_billetsOf 30 = .ok (.istore 4, 2) := by decide +kernel
theorem dX7_billetsOf_32 : decode cX7_billetsOf 32 = .ok (.iinc 5 1, 3) := by decide +kernel
theorem dX7_billetsOf_35 : decode cX7_billetsOf 35 = .ok (.goto (-29), 3) := by decide +kernel
theorem dX7_billetsOf_38 : decode cX7_billetsOf 38 = .ok (.iload 4, 2) := by decide +kernel
theorem dX7_billetsOf_40 : decode cX7_billetsOf 40 = .ok (.ireturn, 1) := by decide +kernel
theorem dX7_lacks_0 : decode cX7_lacks 0 = .ok (.aload_n 0, 1) := by decide +kernel
theorem dX7_lacks_1 : decode cX7_lacks 1 = .ok (.iload_n 1, 1) := by decide +kernel
theorem dX7_lacks_2 : decode cX7_lacks 2 = .ok (.iconst 3, 1) := by decide +kernel
theorem dX7_lacks_3 : decode cX7_lacks 3 = .ok (.invokevirtual 47, 3) := by decide +kernel
theorem dX7_lacks_6 : decode cX7_lacks 6 = .ok (.aload_n 0, 1) := by decide +kernel
theorem dX7_lacks_7 : decode cX7_lacks 7 = .ok (.iload_n 1, 1) := by decide +kernel
theorem dX7_lacks_8 : decode cX7_lacks 8 = .ok (.iconst 4, 1) := by decide +kernel
theorem dX7_lacks_9 : decode cX7_lacks 9 = .ok (.invokevirtual 47, 3) := by decide +kernel
theorem dX7_lacks_12 : decode cX7_lacks 12 = .ok (.isub, 1) := by decide +kernel
theorem dX7_lacks_13 : decode cX7_lacks 13 = .ok (.aload_n 0, 1) := by decide +kernel
theorem dX7_lacks_14 : decode cX7_lacks 14 = .ok (.iload_n 1, 1) := by decide +kernel
theorem dX7_lacks_15 : decode cX7_lacks 15 = .ok (.iconst 0, 1) := by decide +kernel
theorem dX7_lacks_16 : decode cX7_lacks 16 = .ok (.bipush 6, 2) := by decide +kernel
theorem dX7_lacks_18 : decode cX7_lacks 18 = .ok (.invokevirtual 67, 3) := by decide +kernel
theorem dX7_lacks_21 : decode cX7_lacks 21 = .ok (.isub, 1) := by decide +kernel
theorem dX7_lacks_22 : decode cX7_lacks 22 = .ok (.ireturn, 1) := by decide +kernel
theorem dX7_freePlace_0 : decode cX7_freePlace 0 = .ok (.iconst 0, 1) := by decide +kernel
theorem dX7_freePlace_1 : decode cX7_freePlace 1 = .ok (.istore_n 1, 1) := by decide +kernel
theorem dX7_freePlace_2 : decode cX7_freePlace 2 = .ok (.iload_n 1, 1) := by decide +kernel
theorem dX7_freePlace_3 : decode cX7_freePlace 3 = .ok (.bipush 6, 2) := by decide +kernel
theorem dX7_freePlace_5 : decode cX7_freePlace 5 = .ok (.if_icmp .ge 20, 3) := by decide +kernel
theorem dX7_freePlace_8 : decode cX7_freePlace 8 = .ok (.aload_n 0, 1) := by decide +kernel
theorem dX7_freePlace_9 : decode cX7_freePlace 9 = .ok (.iload_n 1, 1) := by decide +kernel
theorem dX7_freePlace_10 : decode cX7_freePlace 10 = .ok (.iconst 0, 1) := by decide +kernel
theorem dX7_freePlace_11 : decode cX7_freePlace 11 = .ok (.invokevirtual 58, 3) := by decide +kernel
theorem dX7_freePlace_14 : decode cX7_freePlace 14 = .ok (.ifCond .ne 5, 3) := by decide +kernel
theorem dX7_freePlace_17 : decode cX7_freePlace 17 = .ok (.iload_n 1, 1) := by decide +kernel
theorem dX7_freePlace_18 : decode cX7_freePlace 18 = .ok (.ireturn, 1) := by decide +kernel
theorem dX7_freePlace_19 : decode cX7_freePlace 19 = .ok (.iinc 1 1, 3) := by decide +kernel
theorem dX7_freePlace_22 : decode cX7_freePlace 22 = .ok (.goto (-20), 3) := by decide +kernel
theorem dX7_freePlace_25 : decode cX7_freePlace 25 = .ok (.iconst (-1), 1) := by decide +kernel
theorem dX7_freePlace_26 : decode cX7_freePlace 26 = .ok (.ireturn, 1) := by decide +kernel
theorem dX7_clears_0 : decode cX7_clears 0 = .ok (.iconst 0, 1) := by decide +kernel
theorem dX7_clears_1 : decode cX7_clears 1 = .ok (.istore_n 2, 1) := by decide +kernel
theorem dX7_clears_2 : decode cX7_clears 2 = .ok (.iload_n 2, 1) := by decide +kernel
theorem dX7_clears_3 : decode cX7_clears 3 = .ok (.iconst 4, 1) := by decide +kernel
theorem dX7_clears_4 : decode cX7_clears 4 = .ok (.if_icmp .ge 16, 3) := by decide +kernel
theorem dX7_clears_7 : decode cX7_clears 7 = .ok (.aload_n 0, 1) := by decide +kernel
theorem dX7_clears_8 : decode cX7_clears 8 = .ok (.iload_n 1, 1) := by decide +kernel
theorem dX7_clears_9 : decode cX7_clears 9 = .ok (.iload_n 2, 1) := by decide +kernel
theorem dX7_clears_10 : decode cX7_clears 10 = .ok (.iconst 0, 1) := by decide +kernel
theorem dX7_clears_11 : decode cX7_clears 11 = .ok (.invokevirtual 71, 3) := by decide +kernel
theorem dX7_clears_14 : decode cX7_clears 14 = .ok (.iinc 2 1, 3) := by decide +kernel
theorem dX7_clears_17 : decode cX7_clears 17 = .ok (.goto (-15), 3) := by decide +kernel
theorem dX7_clears_20 : decode cX7_clears 20 = .ok (.return_, 1) := by decide +kernel
theorem dX7_moves_0 : decode cX7_moves 0 = .ok (.iconst 0, 1) := by decide +kernel
theorem dX7_moves_1 : decode cX7_moves 1 = .ok (.istore_n 3, 1) := by decide +kernel
theorem dX7_moves_2 : decode cX7_moves 2 = .ok (.iload_n 3, 1) := by decide +kernel
theorem dX7_moves_3 : decode cX7_moves 3 = .ok (.iconst 4, 1) := by decide +kernel
theorem dX7_moves_4 : decode cX7_moves 4 = .ok (.if_icmp .ge 21, 3) := by decide +kernel
theorem dX7_moves_7 : decode cX7_moves 7 = .ok (.aload_n 0, 1) := by decide +kernel
theorem dX7_moves_8 : decode cX7_moves 8 = .ok (.iload_n 2, 1) := by decide +kernel
theorem dX7_moves_9 : decode cX7_moves 9 = .ok (.iload_n 3, 1) := by decide +kernel
theorem dX7_moves_10 : decode cX7_moves 10 = .ok (.aload_n 0, 1) := by decide +kernel
theorem dX7_moves_11 : decode cX7_moves 11 = .ok (.iload_n 1, 1) := by decide +kernel
theorem dX7_moves_12 : decode cX7_moves 12 = .ok (.iload_n 3, 1) := by decide +kernel
theorem dX7_moves_13 : decode cX7_moves 13 = .ok (.invokevirtual 58, 3) := by decide +kernel
theorem dX7_moves_16 : decode cX7_moves 16 = .ok (.invokevirtual 71, 3) := by decide +kernel
theorem dX7_moves_19 : decode cX7_moves 19 = .ok (.iinc 3 1, 3) := by decide +kernel
theorem dX7_moves_22 : decode cX7_moves 22 = .ok (.goto (-20), 3) := by decide +kernel
theorem dX7_moves_25 : decode cX7_moves 25 = .ok (.aload_n 0, 1) := by decide +kernel
theorem dX7_moves_26 : decode cX7_moves 26 = .ok (.iload_n 1, 1) := by decide +kernel
theorem dX7_moves_27 : decode cX7_moves 27 = .ok (.invokevirtual 75, 3) := by decide +kernel
theorem dX7_moves_30 : decode cX7_moves 30 = .ok (.return_, 1) := by decide +kernel
theorem dX7_scraps_0 : decode cX7_scraps 0 = .ok (.aload_n 0, 1) := by decide +kernel
theorem dX7_scraps_1 : decode cX7_scraps 1 = .ok (.getfield 7, 3) := by decide +kernel
theorem dX7_scraps_4 : decode cX7_scraps 4 = .ok (.bipush 8, 2) := by decide +kernel
theorem dX7_scraps_6 : decode cX7_scraps 6 = .ok (.dup2, 1) := by decide +kernel
theorem dX7_scraps_7 : decode cX7_scraps 7 = .ok (.iaload, 1) := by decide +kernel
theorem dX7_scraps_8 : decode cX7_scraps 8 = .ok (.iconst 1, 1) := by decide +kernel
theorem dX7_scraps_9 : decode cX7_scraps 9 = .ok (.iadd, 1) := by decide +kernel
theorem dX7_scraps_10 : decode cX7_scraps 10 = .ok (.iastore, 1) := by decide +kernel
theorem dX7_scraps_11 : decode cX7_scraps 11 = .ok (.aload_n 0, 1) := by decide +kernel
theorem dX7_scraps_12 : decode cX7_scraps 12 = .ok (.getfield 7, 3) := by decide +kernel
theorem dX7_scraps_15 : decode cX7_scraps 15 = .ok (.bipush 15, 2) := by decide +kernel
theorem dX7_scraps_17 : decode cX7_scraps 17 = .ok (.iconst 5, 1) := by decide +kernel
theorem dX7_scraps_18 : decode cX7_scraps 18 = .ok (.aload_n 0, 1) := by decide +kernel
theorem dX7_scraps_19 : decode cX7_scraps 19 = .ok (.aload_n 0, 1) := by decide +kernel
theorem dX7_scraps_20 : decode cX7_scraps 20 = .ok (.iload_n 1, 1) := by decide +kernel
theorem dX7_scraps_21 : decode cX7_scraps 21 = .ok (.invokevirtual 64, 3) := by decide +kernel
theorem dX7_scraps_24 : decode cX7_scraps 24 = .ok (.iconst 2, 1) := by decide +kernel
theorem dX7_scraps_25 : decode cX7_scraps 25 = .ok (.invokevirtual 47, 3) := by decide +kernel
theorem dX7_scraps_28 : decode cX7_scraps 28 = .ok (.imul, 1) := by decide +kernel
theorem dX7_scraps_29 : decode cX7_scraps 29 = .ok (.iadd, 1) := by decide +kernel
theorem dX7_scraps_30 : decode cX7_scraps 30 = .ok (.iconst 4, 1) := by decide +kernel
theorem dX7_scraps_31 : decode cX7_scraps 31 = .ok (.iadd, 1) := by decide +kernel
theorem dX7_scraps_32 : decode cX7_scraps 32 = .ok (.dup2, 1) := by decide +kernel
theorem dX7_scraps_33 : decode cX7_scraps 33 = .ok (.iaload, 1) := by decide +kernel
theorem dX7_scraps_34 : decode cX7_scraps 34 = .ok (.iconst 1, 1) := by decide +kernel
theorem dX7_scraps_35 : decode cX7_scraps 35 = .ok (.iadd, 1) := by decide +kernel
theorem dX7_scraps_36 : decode cX7_scraps 36 = .ok (.iastore, 1) := by decide +kernel
theorem dX7_scraps_37 : decode cX7_scraps 37 = .ok (.aload_n 0, 1) := by decide +kernel
theorem dX7_scraps_38 : decode cX7_scraps 38 = .ok (.iload_n 1, 1) := by decide +kernel
theorem dX7_scraps_39 : decode cX7_scraps 39 = .ok (.invokevirtual 75, 3) := by decide +kernel
theorem dX7_scraps_42 : decode cX7_scraps 42 = .ok (.return_, 1) := by decide +kernel
theorem dX7_dropsJob_0 : decode cX7_dropsJob 0 = .ok (.bipush 60, 2) := by decide +kernel
theorem dX7_dropsJob_2 : decode cX7_dropsJob 2 = .ok (.bipush 7, 2) := by decide +kernel
theorem dX7_dropsJob_4 : decode cX7_dropsJob 4 = .ok (.aload_n 0, 1) := by decide +kernel
theorem dX7_dropsJob_5 : decode cX7_dropsJob 5 = .ok (.getfield 7, 3) := by decide +kernel
theorem dX7_dropsJob_8 : decode cX7_dropsJob 8 = .ok (.iconst 5, 1) := by decide +kernel
theorem dX7_dropsJob_9 : decode cX7_dropsJob 9 = .ok (.iaload, 1) := by decide +kernel
theorem dX7_dropsJob_10 : decode cX7_dropsJob 10 = .ok (.iconst 1, 1) := by decide +kernel
theorem dX7_dropsJob_11 : decode cX7_dropsJob 11 = .ok (.isub, 1) := by decide +kernel
theorem dX7_dropsJob_12 : decode cX7_dropsJob 12 = .ok (.imul, 1) := by decide +kernel
theorem dX7_dropsJob_13 : decode cX7_dropsJob 13 = .ok (.iadd, 1) := by decide +kernel
theorem dX7_dropsJob_14 : decode cX7_dropsJob 14 = .ok (.istore_n 2, 1) := by decide +kernel
theorem dX7_dropsJob_15 : decode cX7_dropsJob 15 = .ok (.bipush 60, 2) := by decide +kernel
theorem dX7_dropsJob_17 : decode cX7_dropsJob 17 = .ok (.bipush 7, 2) := by decide +kernel
theorem dX7_dropsJob_19 : decode cX7_dropsJob 19 = .ok (.iload_n 1, 1) := by decide +kernel
theorem dX7_dropsJob_20 : decode cX7_dropsJob 20 = .ok (.imul, 1) := by decide +kernel
theorem dX7_dropsJob_21 : decode cX7_dropsJob 21 = .ok (.iadd, 1) := by decide +kernel
theorem dX7_dropsJob_22 : decode cX7_dropsJob 22 = .ok (.istore_n 3, 1) := by decide +kernel
theorem dX7_dropsJob_23 : decode cX7_dropsJob 23 = .ok (.iload_n 3, 1) := by decide +kernel
theorem dX7_dropsJob_24 : decode cX7_dropsJob 24 = .ok (.iload_n 2, 1) := by decide +kernel
theorem dX7_dropsJob_25 : decode cX7_dropsJob 25 = .ok (.if_icmp .ge 24, 3) := by decide +kernel
theorem dX7_dropsJob_28 : decode cX7_dropsJob 28 = .ok (.aload_n 0, 1) := by decide +kernel
theorem dX7_dropsJob_29 : decode cX7_dropsJob 29 = .ok (.getfield 7, 3) := by decide +kernel
theorem dX7_dropsJob_32 : decode cX7_dropsJob 32 = .ok (.iload_n 3, 1) := by decide +kernel
theorem dX7_dropsJob_33 : decode cX7_dropsJob 33 = .ok (.aload_n 0, 1) := by decide +kernel
theorem dX7_dropsJob_34 : decode cX7_dropsJob 34 = .ok (.getfield 7, 3) := by decide +kernel
theorem dX7_dropsJob_37 : decode cX7_dropsJob 37 = .ok (.iload_n 3, 1) := by decide +kernel
theorem dX7_dropsJob_38 : decode cX7_dropsJob 38 = .ok (.bipush 7, 2) := by decide +kernel
theorem dX7_dropsJob_40 : decode cX7_dropsJob 40 = .ok (.iadd, 1) := by decide +kernel
theorem dX7_dropsJob_41 : decode cX7_dropsJob 41 = .ok (.iaload, 1) := by decide +kernel
theorem dX7_dropsJob_42 : decode cX7_dropsJob 42 = .ok (.iastore, 1) := by decide +kernel
theorem dX7_dropsJob_43 : decode cX7_dropsJob 43 = .ok (.iinc 3 1, 3) := by decide +kernel
theorem dX7_dropsJob_46 : decode cX7_dropsJob 46 = .ok (.goto (-23), 3) := by decide +kernel
theorem dX7_dropsJob_49 : decode cX7_dropsJob 49 = .ok (.iconst 0, 1) := by decide +kernel
theorem dX7_dropsJob_50 : decode cX7_dropsJob 50 = .ok (.istore_n 3, 1) := by decide +kernel
theorem dX7_dropsJob_51 : decode cX7_dropsJob 51 = .ok (.iload_n 3, 1) := by decide +kernel
theorem dX7_dropsJob_52 : decode cX7_dropsJob 52 = .ok (.bipush 7, 2) := by decide +kernel
theorem dX7_dropsJob_54 : decode cX7_dropsJob 54 = .ok (.if_icmp .ge 18, 3) := by decide +kernel
theorem dX7_dropsJob_57 : decode cX7_dropsJob 57 = .ok (.aload_n 0, 1) := by decide +kernel
theorem dX7_dropsJob_58 : decode cX7_dropsJob 58 = .ok (.getfield 7, 3) := by decide +kernel
theorem dX7_dropsJob_61 : decode cX7_dropsJob 61 = .ok (.iload_n 2, 1) := by decide +kernel
theorem dX7_dropsJob_62 : decode cX7_dropsJob 62 = .ok (.iload_n 3, 1) := by decide +kernel
theorem dX7_dropsJob_63 : decode cX7_dropsJob 63 = .ok (.iadd, 1) := by decide +kernel
theorem dX7_dropsJob_64 : decode cX7_dropsJob 64 = .ok (.iconst 0, 1) := by decide +kernel
theorem dX7_dropsJob_65 : decode cX7_dropsJob 65 = .ok (.iastore, 1) := by decide +kernel
theorem dX7_dropsJob_66 : decode cX7_dropsJob 66 = .ok (.iinc 3 1, 3) := by decide +kernel
theorem dX7_dropsJob_69 : decode cX7_dropsJob 69 = .ok (.goto (-18), 3) := by decide +kernel
theorem dX7_dropsJob_72 : decode cX7_dropsJob 72 = .ok (.aload_n 0, 1) := by decide +kernel
theorem dX7_dropsJob_73 : decode cX7_dropsJob 73 = .ok (.getfield 7, 3) := by decide +kernel
theorem dX7_dropsJob_76 : decode cX7_dropsJob 76 = .ok (.iconst 5, 1) := by decide +kernel
theorem dX7_dropsJob_77 : decode cX7_dropsJob 77 = .ok (.dup2, 1) := by decide +kernel
theorem dX7_dropsJob_78 : decode cX7_dropsJob 78 = .ok (.iaload, 1) := by decide +kernel
theorem dX7_dropsJob_79 : decode cX7_dropsJob 79 = .ok (.iconst 1, 1) := by decide +kernel
theorem dX7_dropsJob_80 : decode cX7_dropsJob 80 = .ok (.isub, 1) := by decide +kernel
theorem dX7_dropsJob_81 : decode cX7_dropsJob 81 = .ok (.iastore, 1) := by decide +kernel
theorem dX7_dropsJob_82 : decode cX7_dropsJob 82 = .ok (.return_, 1) := by decide +kernel
theorem dX7_warms_0 : decode cX7_warms 0 = .ok (.iconst 0, 1) := by decide +kernel
theorem dX7_warms_1 : decode cX7_warms 1 = .ok (.istore_n 1, 1) := by decide +kernel
theorem dX7_warms_2 : decode cX7_warms 2 = .ok (.iload_n 1, 1) := by decide +kernel
theorem dX7_warms_3 : decode cX7_warms 3 = .ok (.bipush 6, 2) := by decide +kernel
theorem dX7_warms_5 : decode cX7_warms 5 = .ok (.if_icmp .ge 52, 3) := by decide +kernel
theorem dX7_warms_8 : decode cX7_warms 8 = .ok (.aload_n 0, 1) := by decide +kernel
theorem dX7_warms_9 : decode cX7_warms 9 = .ok (.iload_n 1, 1) := by decide +kernel
theorem dX7_warms_10 : decode cX7_warms 10 = .ok (.iconst 1, 1) := by decide +kernel
theorem dX7_warms_11 : decode cX7_warms 11 = .ok (.invokevirtual 58, 3) := by decide +kernel
theorem dX7_warms_14 : decode cX7_warms 14 = .ok (.aload_n 0, 1) := by decide +kernel
theorem dX7_warms_15 : decode cX7_warms 15 = .ok (.getfield 7, 3) := by decide +kernel
theorem dX7_warms_18 : decode cX7_warms 18 = .ok (.iconst 0, 1) := by decide +kernel
theorem dX7_warms_19 : decode cX7_warms 19 = .ok (.iaload, 1) := by decide +kernel
theorem dX7_warms_20 : decode cX7_warms 20 = .ok (.iadd, 1) := by decide +kernel
theorem dX7_warms_21 : decode cX7_warms 21 = .ok (.istore_n 2, 1) := by decide +kernel
theorem dX7_warms_22 : decode cX7_warms 22 = .ok (.aload_n 0, 1) := by decide +kernel
theorem dX7_warms_23 : decode cX7_warms 23 = .ok (.iload_n 1, 1) := by decide +kernel
theorem dX7_warms_24 : decode cX7_warms 24 = .ok (.iconst 0, 1) := by decide +kernel
theorem dX7_warms_25 : decode cX7_warms 25 = .ok (.invokevirtual 58, 3) := by decide +kernel
theorem dX7_warms_28 : decode cX7_warms 28 = .ok (.ifCond .le 23, 3) := by decide +kernel
theorem dX7_warms_31 : decode cX7_warms 31 = .ok (.aload_n 0, 1) := by decide +kernel
theorem dX7_warms_32 : decode cX7_warms 32 = .ok (.iload_n 1, 1) := by decide +kernel
theorem dX7_warms_33 : decode cX7_warms 33 = .ok (.iconst 1, 1) := by decide +kernel
theorem dX7_warms_34 : decode cX7_warms 34 = .ok (.iload_n 2, 1) := by decide +kernel
theorem dX7_warms_35 : decode cX7_warms 35 = .ok (.sipush 1250, 3) := by decide +kernel
theorem dX7_warms_38 : decode cX7_warms 38 = .ok (.if_icmp .le 9, 3) := by decide +kernel
theorem dX7_warms_41 : decode cX7_warms 41 = .ok (.sipush 1250, 3) := by decide +kernel
theorem dX7_warms_44 : decode cX7_warms 44 = .ok (.goto 4, 3) := by decide +kernel
theorem dX7_warms_47 : decode cX7_warms 47 = .ok (.iload_n 2, 1) := by decide +kernel
theorem dX7_warms_48 : decode cX7_warms 48 = .ok (.invokevirtual 71, 3) := by decide +kernel
theorem dX7_warms_51 : decode cX7_warms 51 = .ok (.iinc 1 1, 3) := by decide +kernel
theorem dX7_warms_54 : decode cX7_warms 54 = .ok (.goto (-52), 3) := by decide +kernel
theorem dX7_warms_57 : decode cX7_warms 57 = .ok (.return_, 1) := by decide +kernel
theorem dX7_loads_0 : decode cX7_loads 0 = .ok (.aload_n 0, 1) := by decide +kernel
theorem dX7_loads_1 : decode cX7_loads 1 = .ok (.invokevirtual 79, 3) := by decide +kernel
theorem dX7_loads_4 : decode cX7_loads 4 = .ok (.istore_n 1, 1) := by decide +kernel
theorem dX7_loads_5 : decode cX7_loads 5 = .ok (.iload_n 1, 1) := by decide +kernel
theorem dX7_loads_6 : decode cX7_loads 6 = .ok (.iconst (-1), 1) := by decide +kernel
theorem dX7_loads_7 : decode cX7_loads 7 = .ok (.if_icmp .eq 7, 3) := by decide +kernel
theorem dX7_loads_10 : decode cX7_loads 10 = .ok (.iconst 1, 1) := by decide +kernel
theorem dX7_loads_11 : decode cX7_loads 11 = .ok (.goto 4, 3) := by decide +kernel
theorem dX7_loads_14 : decode cX7_loads 14 = .ok (.iconst 0, 1) := by decide +kernel
theorem dX7_loads_15 : decode cX7_loads 15 = .ok (.istore_n 2, 1) := by decide +kernel
theorem dX7_loads_16 : decode cX7_loads 16 = .ok (.iconst 0, 1) := by decide +kernel
theorem dX7_loads_17 : decode cX7_loads 17 = .ok (.istore_n 3, 1) := by decide +kernel
theorem dX7_loads_18 : decode cX7_loads 18 = .ok (.iload_n 3, 1) := by decide +kernel
theorem dX7_loads_19 : decode cX7_loads 19 = .ok (.aload_n 0, 1) := by decide +kernel
theorem dX7_loads_20 : decode cX7_loads 20 = .ok (.getfield 7, 3) := by decide +kernel
theorem dX7_loads_23 : decode cX7_loads 23 = .ok (.iconst 5, 1) := by decide +kernel
theorem dX7_loads_24 : decode cX7_loads 24 = .ok (.iaload, 1) := by decide +kernel
theorem dX7_loads_25 : decode cX7_loads 25 = .ok (.if_icmp .ge 116, 3) := by decide +kernel
theorem dX7_loads_28 : decode cX7_loads 28 = .ok (.iload_n 2, 1) := by decide +kernel
theorem dX7_loads_29 : decode cX7_loads 29 = .ok (.ifCond .eq 112, 3) := by decide +kernel
theorem dX7_loads_32 : decode cX7_loads 32 = .ok (.aload_n 0, 1) := by decide +kernel
theorem dX7_loads_33 : decode cX7_loads 33 = .ok (.iload_n 3, 1) := by decide +kernel
theorem dX7_loads_34 : decode cX7_loads 34 = .ok (.invokevirtual 83, 3) := by decide +kernel
theorem dX7_loads_37 : decode cX7_loads 37 = .ok (.istore 4, 2) := by decide +kernel
theorem dX7_loads_39 : decode cX7_loads 39 = .ok (.aload_n 0, 1) := by decide +kernel
theorem dX7_loads_40 : decode cX7_loads 40 = .ok (.iload 4, 2) := by decide +kernel
theorem dX7_loads_42 : decode cX7_loads 42 = .ok (.iconst 2, 1) := by decide +kernel
theorem dX7_loads_43 : decode cX7_loads 43 = .ok (.invokevirtual 47, 3) := by decide +kernel
theorem dX7_loads_46 : decode cX7_loads 46 = .ok (.istore 5, 2) := by decide +kernel
theorem dX7_loads_48 : decode cX7_loads 48 = .ok (.aload_n 0, 1) := by decide +kernel
theorem dX7_loads_49 : decode cX7_loads 49 = .ok (.iload 4, 2) := by decide +kernel
theorem dX7_loads_51 : decode cX7_loads 51 = .ok (.invokevirtual 86, 3) := by decide +kernel
theorem dX7_loads_54 : decode cX7_loads 54 = .ok (.ifCond .le 81, 3) := by decide +kernel
theorem dX7_loads_57 : decode cX7_loads 57 = .ok (.aload_n 0, 1) := by decide +kernel
theorem dX7_loads_58 : decode cX7_loads 58 = .ok (.iload 5, 2) := by decide +kernel
theorem dX7_loads_60 : decode cX7_loads 60 = .ok (.iconst 0, 1) := by decide +kernel
theorem dX7_loads_61 : decode cX7_loads 61 = .ok (.invokevirtual 89, 3) := by decide +kernel
theorem dX7_loads_64 : decode cX7_loads 64 = .ok (.ifCond .le 71, 3) := by decide +kernel
theorem dX7_loads_67 : decode cX7_loads 67 = .ok (.aload_n 0, 1) := by decide +kernel
theorem dX7_loads_68 : decode cX7_loads 68 = .ok (.getfield 7, 3) := by decide +kernel
theorem dX7_loads_71 : decode cX7_loads 71 = .ok (.bipush 15, 2) := by decide +kernel
theorem dX7_loads_73 : decode cX7_loads 73 = .ok (.iconst 5, 1) := by decide +kernel
theorem dX7_loads_74 : decode cX7_loads 74 = .ok (.iload 5, 2) := by decide +kernel
theorem dX7_loads_76 : decode cX7_loads 76 = .ok (.imul, 1) := by decide +kernel
theorem dX7_loads_77 : decode cX7_loads 77 = .ok (.iadd, 1) := by decide +kernel
theorem dX7_loads_78 : decode cX7_loads 78 = .ok (.iconst 0, 1) := by decide +kernel
theorem dX7_loads_79 : decode cX7_loads 79 = .ok (.iadd, 1) := by decide +kernel
theorem dX7_loads_80 : decode cX7_loads 80 = .ok (.dup2, 1) := by decide +kernel
theorem dX7_loads_81 : decode cX7_loads 81 = .ok (.iaload, 1) := by decide +kernel
theorem dX7_loads_82 : decode cX7_loads 82 = .ok (.iconst 1, 1) := by decide +kernel
theorem dX7_loads_83 : decode cX7_loads 83 = .ok (.isub, 1) := by decide +kernel
theorem dX7_loads_84 : decode cX7_loads 84 = .ok (.iastore, 1) := by decide +kernel
theorem dX7_loads_85 : decode cX7_loads 85 = .ok (.aload_n 0, 1) := by decide +kernel
theorem dX7_loads_86 : decode cX7_loads 86 = .ok (.iload_n 1, 1) := by decide +kernel
theorem dX7_loads_87 : decode cX7_loads 87 = .ok (.iconst 0, 1) := by decide +kernel
theorem dX7_loads_88 : decode cX7_loads 88 = .ok (.aload_n 0, 1) := by decide +kernel
theorem dX7_loads_89 : decode cX7_loads 89 = .ok (.iload 4, 2) := by decide +kernel
theorem dX7_loads_91 : decode cX7_loads 91 = .ok (.iconst 0, 1) := by decide +kernel
theorem dX7_loads_92 : decode cX7_loads 92 = .ok (.invokevirtual 47, 3) := by decide +kernel
theorem dX7_loads_95 : decode cX7_loads 95 = .ok (.iconst 1, 1) := by decide +kernel
theorem dX7_loads_96 : decode cX7_loads 96 = .ok (.iadd, 1) := by decide +kernel
theorem dX7_loads_97 : decode cX7_loads 97 = .ok (.invokevirtual 71, 3) := by decide +kernel
theorem dX7_loads_100 : decode cX7_loads 100 = .ok (.aload_n 0, 1) := by decide +kernel
theorem dX7_loads_101 : decode cX7_loads 101 = .ok (.iload_n 1, 1) := by decide +kernel
theorem dX7_loads_102 : decode cX7_loads 102 = .ok (.iconst 1, 1) := by decide +kernel
theorem dX7_loads_103 : decode cX7_loads 103 = .ok (.bipush 20, 2) := by decide +kernel
theorem dX7_loads_105 : decode cX7_loads 105 = .ok (.invokevirtual 71, 3) := by decide +kernel
theorem dX7_loads_108 : decode cX7_loads 108 = .ok (.aload_n 0, 1) := by decide +kernel
theorem dX7_loads_109 : decode cX7_loads 109 = .ok (.iload_n 1, 1) := by decide +kernel
theorem dX7_loads_110 : decode cX7_loads 110 = .ok (.iconst 2, 1) := by decide +kernel
theorem dX7_loads_111 : decode cX7_loads 111 = .ok (.iconst 0, 1) := by decide +kernel
theorem dX7_loads_112 : decode cX7_loads 112 = .ok (.invokevirtual 71, 3) := by decide +kernel
theorem dX7_loads_115 : decode cX7_loads 115 = .ok (.aload_n 0, 1) := by decide +kernel
theorem dX7_loads_116 : decode cX7_loads 116 = .ok (.iload_n 1, 1) := by decide +kernel
theorem dX7_loads_117 : decode cX7_loads 117 = .ok (.iconst 3, 1) := by decide +kernel
theorem dX7_loads_118 : decode cX7_loads 118 = .ok (.aload_n 0, 1) := by decide +kernel
theorem dX7_loads_119 : decode cX7_loads 119 = .ok (.aload_n 0, 1) := by decide +kernel
theorem dX7_loads_120 : decode cX7_loads 120 = .ok (.iload 4, 2) := by decide +kernel
theorem dX7_loads_122 : decode cX7_loads 122 = .ok (.iconst 1, 1) := by decide +kernel
theorem dX7_loads_123 : decode cX7_loads 123 = .ok (.invokevirtual 47, 3) := by decide +kernel
theorem dX7_loads_126 : decode cX7_loads 126 = .ok (.iconst 0, 1) := by decide +kernel
theorem dX7_loads_127 : decode cX7_loads 127 = .ok (.invokevirtual 36, 3) := by decide +kernel
theorem dX7_loads_130 : decode cX7_loads 130 = .ok (.invokevirtual 71, 3) := by decide +kernel
theorem dX7_loads_133 : decode cX7_loads 133 = .ok (.iconst 0, 1) := by decide +kernel
theorem dX7_loads_134 : decode cX7_loads 134 = .ok (.istore_n 2, 1) := by decide +kernel
theorem dX7_loads_135 : decode cX7_loads 135 = .ok (.iinc 3 1, 3) := by decide +kernel
theorem dX7_loads_138 : decode cX7_loads 138 = .ok (.goto (-120), 3) := by decide +kernel
theorem dX7_loads_141 : decode cX7_loads 141 = .ok (.return_, 1) := by decide +kernel
theorem dX7_goesBack_0 : decode cX7_goesBack 0 = .ok (.aload_n 0, 1) := by decide +kernel
theorem dX7_goesBack_1 : decode cX7_goesBack 1 = .ok (.bipush 6, 2) := by decide +kernel
theorem dX7_goesBack_3 : decode cX7_goesBack 3 = .ok (.iconst 2, 1) := by decide +kernel
theorem dX7_goesBack_4 : decode cX7_goesBack 4 = .ok (.aload_n 0, 1) := by decide +kernel
theorem dX7_goesBack_5 : decode cX7_goesBack 5 = .ok (.bipush 6, 2) := by decide +kernel
theorem dX7_goesBack_7 : decode cX7_goesBack 7 = .ok (.iconst 2, 1) := by decide +kernel
theorem dX7_goesBack_8 : decode cX7_goesBack 8 = .ok (.invokevirtual 58, 3) := by decide +kernel
theorem dX7_goesBack_11 : decode cX7_goesBack 11 = .ok (.iconst 1, 1) := by decide +kernel
theorem dX7_goesBack_12 : decode cX7_goesBack 12 = .ok (.iadd, 1) := by decide +kernel
theorem dX7_goesBack_13 : decode cX7_goesBack 13 = .ok (.invokevirtual 71, 3) := by decide +kernel
theorem dX7_goesBack_16 : decode cX7_goesBack 16 = .ok (.aload_n 0, 1) := by decide +kernel
theorem dX7_goesBack_17 : decode cX7_goesBack 17 = .ok (.invokevirtual 79, 3) := by decide +kernel
theorem dX7_goesBack_20 : decode cX7_goesBack 20 = .ok (.istore_n 1, 1) := by decide +kernel
theorem dX7_goesBack_21 : decode cX7_goesBack 21 = .ok (.aload_n 0, 1) := by decide +kernel
theorem dX7_goesBack_22 : decode cX7_goesBack 22 = .ok (.bipush 6, 2) := by decide +kernel
theorem dX7_goesBack_24 : decode cX7_goesBack 24 = .ok (.iconst 2, 1) := by decide +kernel
theorem dX7_goesBack_25 : decode cX7_goesBack 25 = .ok (.invokevirtual 58, 3) := by decide +kernel
theorem dX7_goesBack_28 : decode cX7_goesBack 28 = .ok (.aload_n 0, 1) := by decide +kernel
theorem dX7_goesBack_29 : decode cX7_goesBack 29 = .ok (.getfield 7, 3) := by decide +kernel
theorem dX7_goesBack_32 : decode cX7_goesBack 32 = .ok (.iconst 2, 1) := by decide +kernel
theorem dX7_goesBack_33 : decode cX7_goesBack 33 = .ok (.iaload, 1) := by decide +kernel
theorem dX7_goesBack_34 : decode cX7_goesBack 34 = .ok (.if_icmp .gt 8, 3) := by decide +kernel
theorem dX7_goesBack_37 : decode cX7_goesBack 37 = .ok (.iload_n 1, 1) := by decide +kernel
theorem dX7_goesBack_38 : decode cX7_goesBack 38 = .ok (.iconst (-1), 1) := by decide +kernel
theorem dX7_goesBack_39 : decode cX7_goesBack 39 = .ok (.if_icmp .ne 12, 3) := by decide +kernel
theorem dX7_goesBack_42 : decode cX7_goesBack 42 = .ok (.aload_n 0, 1) := by decide +kernel
theorem dX7_goesBack_43 : decode cX7_goesBack 43 = .ok (.bipush 6, 2) := by decide +kernel
theorem dX7_goesBack_45 : decode cX7_goesBack 45 = .ok (.invokevirtual 92, 3) := by decide +kernel
theorem dX7_goesBack_48 : decode cX7_goesBack 48 = .ok (.goto 10, 3) := by decide +kernel
theorem dX7_goesBack_51 : decode cX7_goesBack 51 = .ok (.aload_n 0, 1) := by decide +kernel
theorem dX7_goesBack_52 : decode cX7_goesBack 52 = .ok (.bipush 6, 2) := by decide +kernel
theorem dX7_goesBack_54 : decode cX7_goesBack 54 = .ok (.iload_n 1, 1) := by decide +kernel
theorem dX7_goesBack_55 : decode cX7_goesBack 55 = .ok (.invokevirtual 95, 3) := by decide +kernel
theorem dX7_goesBack_58 : decode cX7_goesBack 58 = .ok (.return_, 1) := by decide +kernel
theorem dX7_makes_0 : decode cX7_makes 0 = .ok (.aload_n 0, 1) := by decide +kernel
theorem dX7_makes_1 : decode cX7_makes 1 = .ok (.bipush 6, 2) := by decide +kernel
theorem dX7_makes_3 : decode cX7_makes 3 = .ok (.invokevirtual 75, 3) := by decide +kernel
theorem dX7_makes_6 : decode cX7_makes 6 = .ok (.aload_n 0, 1) := by decide +kernel
theorem dX7_makes_7 : decode cX7_makes 7 = .ok (.getfield 7, 3) := by decide +kernel
theorem dX7_makes_10 : decode cX7_makes 10 = .ok (.bipush 7, 2) := by decide +kernel
theorem dX7_makes_12 : decode cX7_makes 12 = .ok (.dup2, 1) := by decide +kernel
theorem dX7_makes_13 : decode cX7_makes 13 = .ok (.iaload, 1) := by decide +kernel
theorem dX7_makes_14 : decode cX7_makes 14 = .ok (.iconst 1, 1) := by decide +kernel
theorem dX7_makes_15 : decode cX7_makes 15 = .ok (.iadd, 1) := by decide +kernel
theorem dX7_makes_16 : decode cX7_makes 16 = .ok (.iastore, 1) := by decide +kernel
theorem dX7_makes_17 : decode cX7_makes 17 = .ok (.aload_n 0, 1) := by decide +kernel
theorem dX7_makes_18 : decode cX7_makes 18 = .ok (.getfield 7, 3) := by decide +kernel
theorem dX7_makes_21 : decode cX7_makes 21 = .ok (.bipush 15, 2) := by decide +kernel
theorem dX7_makes_23 : decode cX7_makes 23 = .ok (.iconst 5, 1) := by decide +kernel
theorem dX7_makes_24 : decode cX7_makes 24 = .ok (.aload_n 0, 1) := by decide +kernel
theorem dX7_makes_25 : decode cX7_makes 25 = .ok (.iload_n 1, 1) := by decide +kernel
theorem dX7_makes_26 : decode cX7_makes 26 = .ok (.iconst 2, 1) := by decide +kernel
theorem dX7_makes_27 : decode cX7_makes 27 = .ok (.invokevirtual 47, 3) := by decide +kernel
theorem dX7_makes_30 : decode cX7_makes 30 = .ok (.imul, 1) := by decide +kernel
theorem dX7_makes_31 : decode cX7_makes 31 = .ok (.iadd, 1) := by decide +kernel
theorem dX7_makes_32 : decode cX7_makes 32 = .ok (.iconst 3, 1) := by decide +kernel
theorem dX7_makes_33 : decode cX7_makes 33 = .ok (.iadd, 1) := by decide +kernel
theorem dX7_makes_34 : decode cX7_makes 34 = .ok (.dup2, 1) := by decide +kernel
theorem dX7_makes_35 : decode cX7_makes 35 = .ok (.iaload, 1) := by decide +kernel
theorem dX7_makes_36 : decode cX7_makes 36 = .ok (.iconst 1, 1) := by decide +kernel
theorem dX7_makes_37 : decode cX7_makes 37 = .ok (.iadd, 1) := by decide +kernel
theorem dX7_makes_38 : decode cX7_makes 38 = .ok (.iastore, 1) := by decide +kernel
theorem dX7_makes_39 : decode cX7_makes 39 = .ok (.aload_n 0, 1) := by decide +kernel
theorem dX7_makes_40 : decode cX7_makes 40 = .ok (.getfield 7, 3) := by decide +kernel
theorem dX7_makes_43 : decode cX7_makes 43 = .ok (.bipush 35, 2) := by decide +kernel
theorem dX7_makes_45 : decode cX7_makes 45 = .ok (.iconst 5, 1) := by decide +kernel
theorem dX7_makes_46 : decode cX7_makes 46 = .ok (.aload_n 0, 1) := by decide +kernel
theorem dX7_makes_47 : decode cX7_makes 47 = .ok (.iload_n 1, 1) := by decide +kernel
theorem dX7_makes_48 : decode cX7_makes 48 = .ok (.iconst 1, 1) := by decide +kernel
theorem dX7_makes_49 : decode cX7_makes 49 = .ok (.invokevirtual 47, 3) := by decide +kernel
theorem dX7_makes_52 : decode cX7_makes 52 = .ok (.imul, 1) := by decide +kernel
theorem dX7_makes_53 : decode cX7_makes 53 = .ok (.iadd, 1) := by decide +kernel
theorem dX7_makes_54 : decode cX7_makes 54 = .ok (.iconst 3, 1) := by decide +kernel
theorem dX7_makes_55 : decode cX7_makes 55 = .ok (.iadd, 1) := by decide +kernel
theorem dX7_makes_56 : decode cX7_makes 56 = .ok (.dup2, 1) := by decide +kernel
theorem dX7_makes_57 : decode cX7_makes 57 = .ok (.iaload, 1) := by decide +kernel
theorem dX7_makes_58 : decode cX7_makes 58 = .ok (.iconst 1, 1) := by decide +kernel
theorem dX7_makes_59 : decode cX7_makes 59 = .ok (.iadd, 1) := by decide +kernel
theorem dX7_makes_60 : decode cX7_makes 60 = .ok (.iastore, 1) := by decide +kernel
theorem dX7_makes_61 : decode cX7_makes 61 = .ok (.aload_n 0, 1) := by decide +kernel
theorem dX7_makes_62 : decode cX7_makes 62 = .ok (.getfield 7, 3) := by decide +kernel
theorem dX7_makes_65 : decode cX7_makes 65 = .ok (.bipush 60, 2) := by decide +kernel
theorem dX7_makes_67 : decode cX7_makes 67 = .ok (.bipush 7, 2) := by decide +kernel
theorem dX7_makes_69 : decode cX7_makes 69 = .ok (.iload_n 1, 1) := by decide +kernel
theorem dX7_makes_70 : decode cX7_makes 70 = .ok (.imul, 1) := by decide +kernel
theorem dX7_makes_71 : decode cX7_makes 71 = .ok (.iadd, 1) := by decide +kernel
theorem dX7_makes_72 : decode cX7_makes 72 = .ok (.iconst 4, 1) := by decide +kernel
theorem dX7_makes_73 : decode cX7_makes 73 = .ok (.iadd, 1) := by decide +kernel
theorem dX7_makes_74 : decode cX7_makes 74 = .ok (.dup2, 1) := by decide +kernel
theorem dX7_makes_75 : decode cX7_makes 75 = .ok (.iaload, 1) := by decide +kernel
theorem dX7_makes_76 : decode cX7_makes 76 = .ok (.iconst 1, 1) := by decide +kernel
theorem dX7_makes_77 : decode cX7_makes 77 = .ok (.iadd, 1) := by decide +kernel
theorem dX7_makes_78 : decode cX7_makes 78 = .ok (.iastore, 1) := by decide +kernel
theorem dX7_makes_79 : decode cX7_makes 79 = .ok (.aload_n 0, 1) := by decide +kernel
theorem dX7_makes_80 : decode cX7_makes 80 = .ok (.iload_n 1, 1) := by decide +kernel
theorem dX7_makes_81 : decode cX7_makes 81 = .ok (.iconst 4, 1) := by decide +kernel
theorem dX7_makes_82 : decode cX7_makes 82 = .ok (.invokevirtual 47, 3) := by decide +kernel
theorem dX7_makes_85 : decode cX7_makes 85 = .ok (.aload_n 0, 1) := by decide +kernel
theorem dX7_makes_86 : decode cX7_makes 86 = .ok (.iload_n 1, 1) := by decide +kernel
theorem dX7_makes_87 : decode cX7_makes 87 = .ok (.iconst 3, 1) := by decide +kernel
theorem dX7_makes_88 : decode cX7_makes 88 = .ok (.invokevirtual 47, 3) := by decide +kernel
theorem dX7_makes_91 : decode cX7_makes 91 = .ok (.if_icmp .ne 73, 3) := by decide +kernel
theorem dX7_makes_94 : decode cX7_makes 94 = .ok (.aload_n 0, 1) := by decide +kernel
theorem dX7_makes_95 : decode cX7_makes 95 = .ok (.getfield 7, 3) := by decide +kernel
theorem dX7_makes_98 : decode cX7_makes 98 = .ok (.iconst 4, 1) := by decide +kernel
theorem dX7_makes_99 : decode cX7_makes 99 = .ok (.iaload, 1) := by decide +kernel
theorem dX7_makes_100 : decode cX7_makes 100 = .ok (.iconst 1, 1) := by decide +kernel
theorem dX7_makes_101 : decode cX7_makes 101 = .ok (.iadd, 1) := by decide +kernel
theorem dX7_makes_102 : decode cX7_makes 102 = .ok (.aload_n 0, 1) := by decide +kernel
theorem dX7_makes_103 : decode cX7_makes 103 = .ok (.iload_n 1, 1) := by decide +kernel
theorem dX7_makes_104 : decode cX7_makes 104 = .ok (.iconst 5, 1) := by decide +kernel
theorem dX7_makes_105 : decode cX7_makes 105 = .ok (.invokevirtual 47, 3) := by decide +kernel
theorem dX7_makes_108 : decode cX7_makes 108 = .ok (.isub, 1) := by decide +kernel
theorem dX7_makes_109 : decode cX7_makes 109 = .ok (.istore_n 2, 1) := by decide +kernel
theorem dX7_makes_110 : decode cX7_makes 110 = .ok (.aload_n 0, 1) := by decide +kernel
theorem dX7_makes_111 : decode cX7_makes 111 = .ok (.getfield 7, 3) := by decide +kernel
theorem dX7_makes_114 : decode cX7_makes 114 = .ok (.bipush 10, 2) := by decide +kernel
theorem dX7_makes_116 : decode cX7_makes 116 = .ok (.dup2, 1) := by decide +kernel
theorem dX7_makes_117 : decode cX7_makes 117 = .ok (.iaload, 1) := by decide +kernel
theorem dX7_makes_118 : decode cX7_makes 118 = .ok (.iconst 1, 1) := by decide +kernel
theorem dX7_makes_119 : decode cX7_makes 119 = .ok (.iadd, 1) := by decide +kernel
theorem dX7_makes_120 : decode cX7_makes 120 = .ok (.iastore, 1) := by decide +kernel
theorem dX7_makes_121 : decode cX7_makes 121 = .ok (.aload_n 0, 1) := by decide +kernel
theorem dX7_makes_122 : decode cX7_makes 122 = .ok (.getfield 7, 3) := by decide +kernel
theorem dX7_makes_125 : decode cX7_makes 125 = .ok (.bipush 11, 2) := by decide +kernel
theorem dX7_makes_127 : decode cX7_makes 127 = .ok (.dup2, 1) := by decide +kernel
theorem dX7_makes_128 : decode cX7_makes 128 = .ok (.iaload, 1) := by decide +kernel
theorem dX7_makes_129 : decode cX7_makes 129 = .ok (.iload_n 2, 1) := by decide +kernel
theorem dX7_makes_130 : decode cX7_makes 130 = .ok (.ifCond .le 7, 3) := by decide +kernel
theorem dX7_makes_133 : decode cX7_makes 133 = .ok (.iconst 1, 1) := by decide +kernel
theorem dX7_makes_134 : decode cX7_makes 134 = .ok (.goto 4, 3) := by decide +kernel
theorem dX7_makes_137 : decode cX7_makes 137 = .ok (.iconst 0, 1) := by decide +kernel
theorem dX7_makes_138 : decode cX7_makes 138 = .ok (.iadd, 1) := by decide +kernel
theorem dX7_makes_139 : decode cX7_makes 139 = .ok (.iastore, 1) := by decide +kernel
theorem dX7_makes_140 : decode cX7_makes 140 = .ok (.aload_n 0, 1) := by decide +kernel
theorem dX7_makes_141 : decode cX7_makes 141 = .ok (.getfield 7, 3) := by decide +kernel
theorem dX7_makes_144 : decode cX7_makes 144 = .ok (.bipush 12, 2) := by decide +kernel
theorem dX7_makes_146 : decode cX7_makes 146 = .ok (.dup2, 1) := by decide +kernel
theorem dX7_makes_147 : decode cX7_makes 147 = .ok (.iaload, 1) := by decide +kernel
theorem dX7_makes_148 : decode cX7_makes 148 = .ok (.iload_n 2, 1) := by decide +kernel
theorem dX7_makes_149 : decode cX7_makes 149 = .ok (.ifCond .le 7, 3) := by decide +kernel
theorem dX7_makes_152 : decode cX7_makes 152 = .ok (.iload_n 2, 1) := by decide +kernel
theorem dX7_makes_153 : decode cX7_makes 153 = .ok (.goto 4, 3) := by decide +kernel
theorem dX7_makes_156 : decode cX7_makes 156 = .ok (.iconst 0, 1) := by decide +kernel
theorem dX7_makes_157 : decode cX7_makes 157 = .ok (.iadd, 1) := by decide +kernel
theorem dX7_makes_158 : decode cX7_makes 158 = .ok (.iastore, 1) := by decide +kernel
theorem dX7_makes_159 : decode cX7_makes 159 = .ok (.aload_n 0, 1) := by decide +kernel
theorem dX7_makes_160 : decode cX7_makes 160 = .ok (.iload_n 1, 1) := by decide +kernel
theorem dX7_makes_161 : decode cX7_makes 161 = .ok (.invokevirtual 99, 3) := by decide +kernel
theorem dX7_makes_164 : decode cX7_makes 164 = .ok (.return_, 1) := by decide +kernel
theorem dX7_presses_0 : decode cX7_presses 0 = .ok (.aload_n 0, 1) := by decide +kernel
theorem dX7_presses_1 : decode cX7_presses 1 = .ok (.iload_n 1, 1) := by decide +kernel
theorem dX7_presses_2 : decode cX7_presses 2 = .ok (.iconst 1, 1) := by decide +kernel
theorem dX7_presses_3 : decode cX7_presses 3 = .ok (.invokevirtual 47, 3) := by decide +kernel
theorem dX7_presses_6 : decode cX7_presses 6 = .ok (.istore_n 2, 1) := by decide +kernel
theorem dX7_presses_7 : decode cX7_presses 7 = .ok (.aload_n 0, 1) := by decide +kernel
theorem dX7_presses_8 : decode cX7_presses 8 = .ok (.iload_n 1, 1) := by decide +kernel
theorem dX7_presses_9 : decode cX7_presses 9 = .ok (.iconst 2, 1) := by decide +kernel
theorem dX7_presses_10 : decode cX7_presses 10 = .ok (.invokevirtual 47, 3) := by decide +kernel
theorem dX7_presses_13 : decode cX7_presses 13 = .ok (.istore_n 3, 1) := by decide +kernel
theorem dX7_presses_14 : decode cX7_presses 14 = .ok (.aload_n 0, 1) := by decide +kernel
theorem dX7_presses_15 : decode cX7_presses 15 = .ok (.bipush 6, 2) := by decide +kernel
theorem dX7_presses_17 : decode cX7_presses 17 = .ok (.iconst 1, 1) := by decide +kernel
theorem dX7_presses_18 : decode cX7_presses 18 = .ok (.invokevirtual 58, 3) := by decide +kernel
theorem dX7_presses_21 : decode cX7_presses 21 = .ok (.istore 4, 2) := by decide +kernel
theorem dX7_presses_23 : decode cX7_presses 23 = .ok (.aload_n 0, 1) := by decide +kernel
theorem dX7_presses_24 : decode cX7_presses 24 = .ok (.iload_n 2, 1) := by decide +kernel
theorem dX7_presses_25 : decode cX7_presses 25 = .ok (.invokevirtual 102, 3) := by decide +kernel
theorem dX7_presses_28 : decode cX7_presses 28 = .ok (.ifCond .eq 14, 3) := by decide +kernel
theorem dX7_presses_31 : decode cX7_presses 31 = .ok (.iload 4, 2) := by decide +kernel
theorem dX7_presses_33 : decode cX7_presses 33 = .ok (.aload_n 0, 1) := by decide +kernel
theorem dX7_presses_34 : decode cX7_presses 34 = .ok (.iload_n 3, 1) := by decide +kernel
theorem dX7_presses_35 : decode cX7_presses 35 = .ok (.iconst 1, 1) := by decide +kernel
theorem dX7_presses_36 : decode cX7_presses 36 = .ok (.invokevirtual 89, 3) := by decide +kernel
theorem dX7_presses_39 : decode cX7_presses 39 = .ok (.if_icmp .ge 8, 3) := by decide +kernel
theorem dX7_presses_42 : decode cX7_presses 42 = .ok (.aload_n 0, 1) := by decide +kernel
theorem dX7_presses_43 : decode cX7_presses 43 = .ok (.invokevirtual 105, 3) := by decide +kernel
theorem dX7_presses_46 : decode cX7_presses 46 = .ok (.return_, 1) := by decide +kernel
theorem dX7_presses_47 : decode cX7_presses 47 = .ok (.aload_n 0, 1) := by decide +kernel
theorem dX7_presses_48 : decode cX7_presses 48 = .ok (.iload_n 3, 1) := by decide +kernel
theorem dX7_presses_49 : decode cX7_presses 49 = .ok (.iconst 2, 1) := by decide +kernel
theorem dX7_presses_50 : decode cX7_presses 50 = .ok (.invokevirtual 89, 3) := by decide +kernel
theorem dX7_presses_53 : decode cX7_presses 53 = .ok (.iload 4, 2) := by decide +kernel
theorem dX7_presses_55 : decode cX7_presses 55 = .ok (.isub, 1) := by decide +kernel
theorem dX7_presses_56 : decode cX7_presses 56 = .ok (.istore 5, 2) := by decide +kernel
theorem dX7_presses_58 : decode cX7_presses 58 = .ok (.aload_n 0, 1) := by decide +kernel
theorem dX7_presses_59 : decode cX7_presses 59 = .ok (.getfield 7, 3) := by decide +kernel
theorem dX7_presses_62 : decode cX7_presses 62 = .ok (.bipush 9, 2) := by decide +kernel
theorem dX7_presses_64 : decode cX7_presses 64 = .ok (.dup2, 1) := by decide +kernel
theorem dX7_presses_65 : decode cX7_presses 65 = .ok (.iaload, 1) := by decide +kernel
theorem dX7_presses_66 : decode cX7_presses 66 = .ok (.iconst 1, 1) := by decide +kernel
theorem dX7_presses_67 : decode cX7_presses 67 = .ok (.iadd, 1) := by decide +kernel
theorem dX7_presses_68 : decode cX7_presses 68 = .ok (.iastore, 1) := by decide +kernel
theorem dX7_presses_69 : decode cX7_presses 69 = .ok (.aload_n 0, 1) := by decide +kernel
theorem dX7_presses_70 : decode cX7_presses 70 = .ok (.getfield 7, 3) := by decide +kernel
theorem dX7_presses_73 : decode cX7_presses 73 = .ok (.bipush 35, 2) := by decide +kernel
theorem dX7_presses_75 : decode cX7_presses 75 = .ok (.iconst 5, 1) := by decide +kernel
theorem dX7_presses_76 : decode cX7_presses 76 = .ok (.iload_n 2, 1) := by decide +kernel
theorem dX7_presses_77 : decode cX7_presses 77 = .ok (.imul, 1) := by decide +kernel
theorem dX7_presses_78 : decode cX7_presses 78 = .ok (.iadd, 1) := by decide +kernel
theorem dX7_presses_79 : decode cX7_presses 79 = .ok (.iconst 2, 1) := by decide +kernel
theorem dX7_presses_80 : decode cX7_presses 80 = .ok (.iadd, 1) := by decide +kernel
theorem dX7_presses_81 : decode cX7_presses 81 = .ok (.dup2, 1) := by decide +kernel
theorem dX7_presses_82 : decode cX7_presses 82 = .ok (.iaload, 1) := by decide +kernel
theorem dX7_presses_83 : decode cX7_presses 83 = .ok (.iconst 1, 1) := by decide +kernel
theorem dX7_presses_84 : decode cX7_presses 84 = .ok (.iload 5, 2) := by decide +kernel
theorem dX7_presses_86 : decode cX7_presses 86 = .ok (.ifCond .le 8, 3) := by decide +kernel
theorem dX7_presses_89 : decode cX7_presses 89 = .ok (.iload 5, 2) := by decide +kernel
theorem dX7_presses_91 : decode cX7_presses 91 = .ok (.goto 4, 3) := by decide +kernel
theorem dX7_presses_94 : decode cX7_presses 94 = .ok (.iconst 0, 1) := by decide +kernel
theorem dX7_presses_95 : decode cX7_presses 95 = .ok (.bipush 100, 2) := by decide +kernel
theorem dX7_presses_97 : decode cX7_presses 97 = .ok (.idiv, 1) := by decide +kernel
theorem dX7_presses_98 : decode cX7_presses 98 = .ok (.iadd, 1) := by decide +kernel
theorem dX7_presses_99 : decode cX7_presses 99 = .ok (.iadd, 1) := by decide +kernel
theorem dX7_presses_100 : decode cX7_presses 100 = .ok (.iastore, 1) := by decide +kernel
theorem dX7_presses_101 : decode cX7_presses 101 = .ok (.aload_n 0, 1) := by decide +kernel
theorem dX7_presses_102 : decode cX7_presses 102 = .ok (.bipush 6, 2) := by decide +kernel
theorem dX7_presses_104 : decode cX7_presses 104 = .ok (.iconst 1, 1) := by decide +kernel
theorem dX7_presses_105 : decode cX7_presses 105 = .ok (.iload 4, 2) := by decide +kernel
theorem dX7_presses_107 : decode cX7_presses 107 = .ok (.aload_n 0, 1) := by decide +kernel
theorem dX7_presses_108 : decode cX7_presses 108 = .ok (.getfield 7, 3) := by decide +kernel
theorem dX7_presses_111 : decode cX7_presses 111 = .ok (.iconst 1, 1) := by decide +kernel
theorem dX7_presses_112 : decode cX7_presses 112 = .ok (.iaload, 1) := by decide +kernel
theorem dX7_presses_113 : decode cX7_presses 113 = .ok (.isub, 1) := by decide +kernel
theorem dX7_presses_114 : decode cX7_presses 114 = .ok (.bipush 20, 2) := by decide +kernel
theorem dX7_presses_116 : decode cX7_presses 116 = .ok (.if_icmp .ge 8, 3) := by decide +kernel
theorem dX7_presses_119 : decode cX7_presses 119 = .ok (.bipush 20, 2) := by decide +kernel
theorem dX7_presses_121 : decode cX7_presses 121 = .ok (.goto 12, 3) := by decide +kernel
theorem dX7_presses_124 : decode cX7_presses 124 = .ok (.iload 4, 2) := by decide +kernel
theorem dX7_presses_126 : decode cX7_presses 126 = .ok (.aload_n 0, 1) := by decide +kernel
theorem dX7_presses_127 : decode cX7_presses 127 = .ok (.getfield 7, 3) := by decide +kernel
theorem dX7_presses_130 : decode cX7_presses 130 = .ok (.iconst 1, 1) := by decide +kernel
theorem dX7_presses_131 : decode cX7_presses 131 = .ok (.iaload, 1) := by decide +kernel
theorem dX7_presses_132 : decode cX7_presses 132 = .ok (.isub, 1) := by decide +kernel
theorem dX7_presses_133 : decode cX7_presses 133 = .ok (.invokevirtual 71, 3) := by decide +kernel
theorem dX7_presses_136 : decode cX7_presses 136 = .ok (.aload_n 0, 1) := by decide +kernel
theorem dX7_presses_137 : decode cX7_presses 137 = .ok (.bipush 6, 2) := by decide +kernel
theorem dX7_presses_139 : decode cX7_presses 139 = .ok (.iconst 3, 1) := by decide +kernel
theorem dX7_presses_140 : decode cX7_presses 140 = .ok (.aload_n 0, 1) := by decide +kernel
theorem dX7_presses_141 : decode cX7_presses 141 = .ok (.bipush 6, 2) := by decide +kernel
theorem dX7_presses_143 : decode cX7_presses 143 = .ok (.iconst 3, 1) := by decide +kernel
theorem dX7_presses_144 : decode cX7_presses 144 = .ok (.invokevirtual 58, 3) := by decide +kernel
theorem dX7_presses_147 : decode cX7_presses 147 = .ok (.iconst 1, 1) := by decide +kernel
theorem dX7_presses_148 : decode cX7_presses 148 = .ok (.isub, 1) := by decide +kernel
theorem dX7_presses_149 : decode cX7_presses 149 = .ok (.invokevirtual 71, 3) := by decide +kernel
theorem dX7_presses_152 : decode cX7_presses 152 = .ok (.aload_n 0, 1) := by decide +kernel
theorem dX7_presses_153 : decode cX7_presses 153 = .ok (.bipush 6, 2) := by decide +kernel
theorem dX7_presses_155 : decode cX7_presses 155 = .ok (.iconst 3, 1) := by decide +kernel
theorem dX7_presses_156 : decode cX7_presses 156 = .ok (.invokevirtual 58, 3) := by decide +kernel
theorem dX7_presses_159 : decode cX7_presses 159 = .ok (.ifCond .ne 8, 3) := by decide +kernel
theorem dX7_presses_162 : decode cX7_presses 162 = .ok (.aload_n 0, 1) := by decide +kernel
theorem dX7_presses_163 : decode cX7_presses 163 = .ok (.iload_n 1, 1) := by decide +kernel
theorem dX7_presses_164 : decode cX7_presses 164 = .ok (.invokevirtual 108, 3) := by decide +kernel
theorem dX7_presses_167 : decode cX7_presses 167 = .ok (.return_, 1) := by decide +kernel
theorem dX7_hottest_0 : decode cX7_hottest 0 = .ok (.iconst (-1), 1) := by decide +kernel
theorem dX7_hottest_1 : decode cX7_hottest 1 = .ok (.istore_n 2, 1) := by decide +kernel
theorem dX7_hottest_2 : decode cX7_hottest 2 = .ok (.iconst 0, 1) := by decide +kernel
theorem dX7_hottest_3 : decode cX7_hottest 3 = .ok (.istore_n 3, 1) := by decide +kernel
theorem dX7_hottest_4 : decode cX7_hottest 4 = .ok (.iload_n 3, 1) := by decide +kernel
theorem dX7_hottest_5 : decode cX7_hottest 5 = .ok (.bipush 6, 2) := by decide +kernel
theorem dX7_hottest_7 : decode cX7_hottest 7 = .ok (.if_icmp .ge 76, 3) := by decide +kernel
theorem dX7_hottest_10 : decode cX7_hottest 10 = .ok (.aload_n 0, 1) := by decide +kernel
theorem dX7_hottest_11 : decode cX7_hottest 11 = .ok (.iload_n 3, 1) := by decide +kernel
theorem dX7_hottest_12 : decode cX7_hottest 12 = .ok (.invokevirtual 64, 3) := by decide +kernel
theorem dX7_hottest_15 : decode cX7_hottest 15 = .ok (.iload_n 1, 1) := by decide +kernel
theorem dX7_hottest_16 : decode cX7_hottest 16 = .ok (.if_icmp .ne 27, 3) := by decide +kernel
theorem dX7_hottest_19 : decode cX7_hottest 19 = .ok (.aload_n 0, 1) := by decide +kernel
theorem dX7_hottest_20 : decode cX7_hottest 20 = .ok (.iload_n 3, 1) := by decide +kernel
theorem dX7_hottest_21 : decode cX7_hottest 21 = .ok (.iconst 1, 1) := by decide +kernel
theorem dX7_hottest_22 : decode cX7_hottest 22 = .ok (.invokevirtual 58, 3) := by decide +kernel
theorem dX7_hottest_25 : decode cX7_hottest 25 = .ok (.aload_n 0, 1) := by decide +kernel
theorem dX7_hottest_26 : decode cX7_hottest 26 = .ok (.aload_n 0, 1) := by decide +kernel
theorem dX7_hottest_27 : decode cX7_hottest 27 = .ok (.iload_n 1, 1) := by decide +kernel
theorem dX7_hottest_28 : decode cX7_hottest 28 = .ok (.iconst 2, 1) := by decide +kernel
theorem dX7_hottest_29 : decode cX7_hottest 29 = .ok (.invokevirtual 47, 3) := by decide +kernel
theorem dX7_hottest_32 : decode cX7_hottest 32 = .ok (.iconst 2, 1) := by decide +kernel
theorem dX7_hottest_33 : decode cX7_hottest 33 = .ok (.invokevirtual 89, 3) := by decide +kernel
theorem dX7_hottest_36 : decode cX7_hottest 36 = .ok (.if_icmp .lt 7, 3) := by decide +kernel
theorem dX7_hottest_39 : decode cX7_hottest 39 = .ok (.iconst 1, 1) := by decide +kernel
theorem dX7_hottest_40 : decode cX7_hottest 40 = .ok (.goto 4, 3) := by decide +kernel
theorem dX7_hottest_43 : decode cX7_hottest 43 = .ok (.iconst 0, 1) := by decide +kernel
theorem dX7_hottest_44 : decode cX7_hottest 44 = .ok (.istore 4, 2) := by decide +kernel
theorem dX7_hottest_46 : decode cX7_hottest 46 = .ok (.iload 4, 2) := by decide +kernel
theorem dX7_hottest_48 : decode cX7_hottest 48 = .ok (.ifCond .eq 27, 3) := by decide +kernel
theorem dX7_hottest_51 : decode cX7_hottest 51 = .ok (.iload_n 2, 1) := by decide +kernel
theorem dX7_hottest_52 : decode cX7_hottest 52 = .ok (.iconst (-1), 1) := by decide +kernel
theorem dX7_hottest_53 : decode cX7_hottest 53 = .ok (.if_icmp .eq 18, 3) := by decide +kernel
theorem dX7_hottest_56 : decode cX7_hottest 56 = .ok (.aload_n 0, 1) := by decide +kernel
theorem dX7_hottest_57 : decode cX7_hottest 57 = .ok (.iload_n 3, 1) := by decide +kernel
theorem dX7_hottest_58 : decode cX7_hottest 58 = .ok (.iconst 1, 1) := by decide +kernel
theorem dX7_hottest_59 : decode cX7_hottest 59 = .ok (.invokevirtual 58, 3) := by decide +kernel
theorem dX7_hottest_62 : decode cX7_hottest 62 = .ok (.aload_n 0, 1) := by decide +kernel
theorem dX7_hottest_63 : decode cX7_hottest 63 = .ok (.iload_n 2, 1) := by decide +kernel
theorem dX7_hottest_64 : decode cX7_hottest 64 = .ok (.iconst 1, 1) := by decide +kernel
theorem dX7_hottest_65 : decode cX7_hottest 65 = .ok (.invokevirtual 58, 3) := by decide +kernel
theorem dX7_hottest_68 : decode cX7_hottest 68 = .ok (.if_icmp .le 7, 3) := by decide +kernel
theorem dX7_hottest_71 : decode cX7_hottest 71 = .ok (.iload_n 3, 1) := by decide +kernel
theorem dX7_hottest_72 : decode cX7_hottest 72 = .ok (.goto 4, 3) := by decide +kernel
theorem dX7_hottest_75 : decode cX7_hottest 75 = .ok (.iload_n 2, 1) := by decide +kernel
theorem dX7_hottest_76 : decode cX7_hottest 76 = .ok (.istore_n 2, 1) := by decide +kernel
theorem dX7_hottest_77 : decode cX7_hottest 77 = .ok (.iinc 3 1, 3) := by decide +kernel
theorem dX7_hottest_80 : decode cX7_hottest 80 = .ok (.goto (-76), 3) := by decide +kernel
theorem dX7_hottest_83 : decode cX7_hottest 83 = .ok (.iload_n 2, 1) := by decide +kernel
theorem dX7_hottest_84 : decode cX7_hottest 84 = .ok (.ireturn, 1) := by decide +kernel
theorem dX7_takes_0 : decode cX7_takes 0 = .ok (.iconst 0, 1) := by decide +kernel
theorem dX7_takes_1 : decode cX7_takes 1 = .ok (.istore_n 1, 1) := by decide +kernel
theorem dX7_takes_2 : decode cX7_takes 2 = .ok (.iload_n 1, 1) := by decide +kernel
theorem dX7_takes_3 : decode cX7_takes 3 = .ok (.aload_n 0, 1) := by decide +kernel
theorem dX7_takes_4 : decode cX7_takes 4 = .ok (.getfield 7, 3) := by decide +kernel
theorem dX7_takes_7 : decode cX7_takes 7 = .ok (.iconst 5, 1) := by decide +kernel
theorem dX7_takes_8 : decode cX7_takes 8 = .ok (.iaload, 1) := by decide +kernel
theorem dX7_takes_9 : decode cX7_takes 9 = .ok (.if_icmp .ge 51, 3) := by decide +kernel
theorem dX7_takes_12 : decode cX7_takes 12 = .ok (.aload_n 0, 1) := by decide +kernel
theorem dX7_takes_13 : decode cX7_takes 13 = .ok (.iload_n 1, 1) := by decide +kernel
theorem dX7_takes_14 : decode cX7_takes 14 = .ok (.invokevirtual 83, 3) := by decide +kernel
theorem dX7_takes_17 : decode cX7_takes 17 = .ok (.istore_n 2, 1) := by decide +kernel
theorem dX7_takes_18 : decode cX7_takes 18 = .ok (.aload_n 0, 1) := by decide +kernel
theorem dX7_takes_19 : decode cX7_takes 19 = .ok (.aload_n 0, 1) := by decide +kernel
theorem dX7_takes_20 : decode cX7_takes 20 = .ok (.iload_n 2, 1) := by decide +kernel
theorem dX7_takes_21 : decode cX7_takes 21 = .ok (.iconst 1, 1) := by decide +kernel
theorem dX7_takes_22 : decode cX7_takes 22 = .ok (.invokevirtual 47, 3) := by decide +kernel
theorem dX7_takes_25 : decode cX7_takes 25 = .ok (.invokevirtual 102, 3) := by decide +kernel
theorem dX7_takes_28 : decode cX7_takes 28 = .ok (.ifCond .eq 11, 3) := by decide +kernel
theorem dX7_takes_31 : decode cX7_takes 31 = .ok (.aload_n 0, 1) := by decide +kernel
theorem dX7_takes_32 : decode cX7_takes 32 = .ok (.iload_n 2, 1) := by decide +kernel
theorem dX7_takes_33 : decode cX7_takes 33 = .ok (.invokevirtual 111, 3) := by decide +kernel
theorem dX7_takes_36 : decode cX7_takes 36 = .ok (.goto 4, 3) := by decide +kernel
theorem dX7_takes_39 : decode cX7_takes 39 = .ok (.iconst (-1), 1) := by decide +kernel
theorem dX7_takes_40 : decode cX7_takes 40 = .ok (.istore_n 3, 1) := by decide +kernel
theorem dX7_takes_41 : decode cX7_takes 41 = .ok (.iload_n 3, 1) := by decide +kernel
theorem dX7_takes_42 : decode cX7_takes 42 = .ok (.iconst (-1), 1) := by decide +kernel
theorem dX7_takes_43 : decode cX7_takes 43 = .ok (.if_icmp .eq 11, 3) := by decide +kernel
theorem dX7_takes_46 : decode cX7_takes 46 = .ok (.aload_n 0, 1) := by decide +kernel
theorem dX7_takes_47 : decode cX7_takes 47 = .ok (.iload_n 3, 1) := by decide +kernel
theorem dX7_takes_48 : decode cX7_takes 48 = .ok (.bipush 6, 2) := by decide +kernel
theorem dX7_takes_50 : decode cX7_takes 50 = .ok (.invokevirtual 95, 3) := by decide +kernel
theorem dX7_takes_53 : decode cX7_takes 53 = .ok (.return_, 1) := by decide +kernel
theorem dX7_takes_54 : decode cX7_takes 54 = .ok (.iinc 1 1, 3) := by decide +kernel
theorem dX7_takes_57 : decode cX7_takes 57 = .ok (.goto (-55), 3) := by decide +kernel
theorem dX7_takes_60 : decode cX7_takes 60 = .ok (.return_, 1) := by decide +kernel
theorem dX7_grinds_0 : decode cX7_grinds 0 = .ok (.aload_n 0, 1) := by decide +kernel
theorem dX7_grinds_1 : decode cX7_grinds 1 = .ok (.getfield 7, 3) := by decide +kernel
theorem dX7_grinds_4 : decode cX7_grinds 4 = .ok (.bipush 13, 2) := by decide +kernel
theorem dX7_grinds_6 : decode cX7_grinds 6 = .ok (.iaload, 1) := by decide +kernel
theorem dX7_grinds_7 : decode cX7_grinds 7 = .ok (.ifCond .le 104, 3) := by decide +kernel
theorem dX7_grinds_10 : decode cX7_grinds 10 = .ok (.aload_n 0, 1) := by decide +kernel
theorem dX7_grinds_11 : decode cX7_grinds 11 = .ok (.getfield 7, 3) := by decide +kernel
theorem dX7_grinds_14 : decode cX7_grinds 14 = .ok (.bipush 14, 2) := by decide +kernel
theorem dX7_grinds_16 : decode cX7_grinds 16 = .ok (.dup2, 1) := by decide +kernel
theorem dX7_grinds_17 : decode cX7_grinds 17 = .ok (.iaload, 1) := by decide +kernel
theorem dX7_grinds_18 : decode cX7_grinds 18 = .ok (.iconst 1, 1) := by decide +kernel
theorem dX7_grinds_19 : decode cX7_grinds 19 = .ok (.isub, 1) := by decide +kernel
theorem dX7_grinds_20 : decode cX7_grinds 20 = .ok (.iastore, 1) := by decide +kernel
theorem dX7_grinds_21 : decode cX7_grinds 21 = .ok (.aload_n 0, 1) := by decide +kernel
theorem dX7_grinds_22 : decode cX7_grinds 22 = .ok (.getfield 7, 3) := by decide +kernel
theorem dX7_grinds_25 : decode cX7_grinds 25 = .ok (.bipush 14, 2) := by decide +kernel
theorem dX7_grinds_27 : decode cX7_grinds 27 = .ok (.iaload, 1) := by decide +kernel
theorem dX7_grinds_28 : decode cX7_grinds 28 = .ok (.ifCond .ne 83, 3) := by decide +kernel
theorem dX7_grinds_31 : decode cX7_grinds 31 = .ok (.bipush 35, 2) := by decide +kernel
theorem dX7_grinds_33 : decode cX7_grinds 33 = .ok (.iconst 5, 1) := by decide +kernel
theorem dX7_grinds_34 : decode cX7_grinds 34 = .ok (.aload_n 0, 1) := by decide +kernel
theorem dX7_grinds_35 : decode cX7_grinds 35 = .ok (.getfield 7, 3) := by decide +kernel
theorem dX7_grinds_38 : decode cX7_grinds 38 = .ok (.bipush 13, 2) := by decide +kernel
theorem dX7_grinds_40 : decode cX7_grinds 40 = .ok (.iaload, 1) := by decide +kernel
theorem dX7_grinds_41 : decode cX7_grinds 41 = .ok (.iconst 1, 1) := by decide +kernel
theorem dX7_grinds_42 : decode cX7_grinds 42 = .ok (.isub, 1) := by decide +kernel
theorem dX7_grinds_43 : decode cX7_grinds 43 = .ok (.imul, 1) := by decide +kernel
theorem dX7_grinds_44 : decode cX7_grinds 44 = .ok (.iadd, 1) := by decide +kernel
theorem dX7_grinds_45 : decode cX7_grinds 45 = .ok (.istore_n 1, 1) := by decide +kernel
theorem dX7_grinds_46 : decode cX7_grinds 46 = .ok (.aload_n 0, 1) := by decide +kernel
theorem dX7_grinds_47 : decode cX7_grinds 47 = .ok (.getfield 7, 3) := by decide +kernel
theorem dX7_grinds_50 : decode cX7_grinds 50 = .ok (.iload_n 1, 1) := by decide +kernel
theorem dX7_grinds_51 : decode cX7_grinds 51 = .ok (.iconst 2, 1) := by decide +kernel
theorem dX7_grinds_52 : decode cX7_grinds 52 = .ok (.iadd, 1) := by decide +kernel
theorem dX7_grinds_53 : decode cX7_grinds 53 = .ok (.iconst 0, 1) := by decide +kernel
theorem dX7_grinds_54 : decode cX7_grinds 54 = .ok (.iastore, 1) := by decide +kernel
theorem dX7_grinds_55 : decode cX7_grinds 55 = .ok (.aload_n 0, 1) := by decide +kernel
theorem dX7_grinds_56 : decode cX7_grinds 56 = .ok (.getfield 7, 3) := by decide +kernel
theorem dX7_grinds_59 : decode cX7_grinds 59 = .ok (.iload_n 1, 1) := by decide +kernel
theorem dX7_grinds_60 : decode cX7_grinds 60 = .ok (.iconst 1, 1) := by decide +kernel
theorem dX7_grinds_61 : decode cX7_grinds 61 = .ok (.iadd, 1) := by decide +kernel
theorem dX7_grinds_62 : decode cX7_grinds 62 = .ok (.aload_n 0, 1) := by decide +kernel
theorem dX7_grinds_63 : decode cX7_grinds 63 = .ok (.getfield 7, 3) := by decide +kernel
theorem dX7_grinds_66 : decode cX7_grinds 66 = .ok (.iload_n 1, 1) := by decide +kernel
theorem dX7_grinds_67 : decode cX7_grinds 67 = .ok (.iconst 1, 1) := by decide +kernel
theorem dX7_grinds_68 : decode cX7_grinds 68 = .ok (.iadd, 1) := by decide +kernel
theorem dX7_grinds_69 : decode cX7_grinds 69 = .ok (.iaload, 1) := by decide +kernel
theorem dX7_grinds_70 : decode cX7_grinds 70 = .ok (.bipush 15, 2) := by decide +kernel
theorem dX7_grinds_72 : decode cX7_grinds 72 = .ok (.if_icmp .ge 8, 3) := by decide +kernel
theorem dX7_grinds_75 : decode cX7_grinds 75 = .ok (.bipush 10, 2) := by decide +kernel
theorem dX7_grinds_77 : decode cX7_grinds 77 = .ok (.goto 13, 3) := by decide +kernel
theorem dX7_grinds_80 : decode cX7_grinds 80 = .ok (.aload_n 0, 1) := by decide +kernel
theorem dX7_grinds_81 : decode cX7_grinds 81 = .ok (.getfield 7, 3) := by decide +kernel
theorem dX7_grinds_84 : decode cX7_grinds 84 = .ok (.iload_n 1, 1) := by decide +kernel
theorem dX7_grinds_85 : decode cX7_grinds 85 = .ok (.iconst 1, 1) := by decide +kernel
theorem dX7_grinds_86 : decode cX7_grinds 86 = .ok (.iadd, 1) := by decide +kernel
theorem dX7_grinds_87 : decode cX7_grinds 87 = .ok (.iaload, 1) := by decide +kernel
theorem dX7_grinds_88 : decode cX7_grinds 88 = .ok (.iconst 5, 1) := by decide +kernel
theorem dX7_grinds_89 : decode cX7_grinds 89 = .ok (.isub, 1) := by decide +kernel
theorem dX7_grinds_90 : decode cX7_grinds 90 = .ok (.iastore, 1) := by decide +kernel
theorem dX7_grinds_91 : decode cX7_grinds 91 = .ok (.aload_n 0, 1) := by decide +kernel
theorem dX7_grinds_92 : decode cX7_grinds 92 = .ok (.getfield 7, 3) := by decide +kernel
theorem dX7_grinds_95 : decode cX7_grinds 95 = .ok (.iload_n 1, 1) := by decide +kernel
theorem dX7_grinds_96 : decode cX7_grinds 96 = .ok (.iconst 4, 1) := by decide +kernel
theorem dX7_grinds_97 : decode cX7_grinds 97 = .ok (.iadd, 1) := by decide +kernel
theorem dX7_grinds_98 : decode cX7_grinds 98 = .ok (.dup2, 1) := by decide +kernel
theorem dX7_grinds_99 : decode cX7_grinds 99 = .ok (.iaload, 1) := by decide +kernel
theorem dX7_grinds_100 : decode cX7_grinds 100 = .ok (.iconst 1, 1) := by decide +kernel
theorem dX7_grinds_101 : decode cX7_grinds 101 = .ok (.iadd, 1) := by decide +kernel
theorem dX7_grinds_102 : decode cX7_grinds 102 = .ok (.iastore, 1) := by decide +kernel
theorem dX7_grinds_103 : decode cX7_grinds 103 = .ok (.aload_n 0, 1) := by decide +kernel
theorem dX7_grinds_104 : decode cX7_grinds 104 = .ok (.getfield 7, 3) := by decide +kernel
theorem dX7_grinds_107 : decode cX7_grinds 107 = .ok (.bipush 13, 2) := by decide +kernel
theorem dX7_grinds_109 : decode cX7_grinds 109 = .ok (.iconst 0, 1) := by decide +kernel
theorem dX7_grinds_110 : decode cX7_grinds 110 = .ok (.iastore, 1) := by decide +kernel
theorem dX7_grinds_111 : decode cX7_grinds 111 = .ok (.iconst 0, 1) := by decide +kernel
theorem dX7_grinds_112 : decode cX7_grinds 112 = .ok (.istore_n 1, 1) := by decide +kernel
theorem dX7_grinds_113 : decode cX7_grinds 113 = .ok (.iload_n 1, 1) := by decide +kernel
theorem dX7_grinds_114 : decode cX7_grinds 114 = .ok (.iconst 5, 1) := by decide +kernel
theorem dX7_grinds_115 : decode cX7_grinds 115 = .ok (.if_icmp .ge 32, 3) := by decide +kernel
theorem dX7_grinds_118 : decode cX7_grinds 118 = .ok (.aload_n 0, 1) := by decide +kernel
theorem dX7_grinds_119 : decode cX7_grinds 119 = .ok (.getfield 7, 3) := by decide +kernel
theorem dX7_grinds_122 : decode cX7_grinds 122 = .ok (.bipush 13, 2) := by decide +kernel
theorem dX7_grinds_124 : decode cX7_grinds 124 = .ok (.iaload, 1) := by decide +kernel
theorem dX7_grinds_125 : decode cX7_grinds 125 = .ok (.ifCond .ne 22, 3) := by decide +kernel
theorem dX7_grinds_128 : decode cX7_grinds 128 = .ok (.aload_n 0, 1) := by decide +kernel
theorem dX7_grinds_129 : decode cX7_grinds 129 = .ok (.iload_n 1, 1) := by decide +kernel
theorem dX7_grinds_130 : decode cX7_grinds 130 = .ok (.invokevirtual 40, 3) := by decide +kernel
theorem dX7_grinds_133 : decode cX7_grinds 133 = .ok (.ifCond .eq 8, 3) := by decide +kernel
theorem dX7_grinds_136 : decode cX7_grinds 136 = .ok (.aload_n 0, 1) := by decide +kernel
theorem dX7_grinds_137 : decode cX7_grinds 137 = .ok (.iload_n 1, 1) := by decide +kernel
theorem dX7_grinds_138 : decode cX7_grinds 138 = .ok (.invokevirtual 114, 3) := by decide +kernel
theorem dX7_grinds_141 : decode cX7_grinds 141 = .ok (.iinc 1 1, 3) := by decide +kernel
theorem dX7_grinds_144 : decode cX7_grinds 144 = .ok (.goto (-31), 3) := by decide +kernel
theorem dX7_grinds_147 : decode cX7_grinds 147 = .ok (.return_, 1) := by decide +kernel
theorem dX7_begins_0 : decode cX7_begins 0 = .ok (.aload_n 0, 1) := by decide +kernel
theorem dX7_begins_1 : decode cX7_begins 1 = .ok (.getfield 7, 3) := by decide +kernel
theorem dX7_begins_4 : decode cX7_begins 4 = .ok (.bipush 13, 2) := by decide +kernel
theorem dX7_begins_6 : decode cX7_begins 6 = .ok (.iload_n 1, 1) := by decide +kernel
theorem dX7_begins_7 : decode cX7_begins 7 = .ok (.iconst 1, 1) := by decide +kernel
theorem dX7_begins_8 : decode cX7_begins 8 = .ok (.iadd, 1) := by decide +kernel
theorem dX7_begins_9 : decode cX7_begins 9 = .ok (.iastore, 1) := by decide +kernel
theorem dX7_begins_10 : decode cX7_begins 10 = .ok (.aload_n 0, 1) := by decide +kernel
theorem dX7_begins_11 : decode cX7_begins 11 = .ok (.getfield 7, 3) := by decide +kernel
theorem dX7_begins_14 : decode cX7_begins 14 = .ok (.bipush 14, 2) := by decide +kernel
theorem dX7_begins_16 : decode cX7_begins 16 = .ok (.aload_n 0, 1) := by decide +kernel
theorem dX7_begins_17 : decode cX7_begins 17 = .ok (.getfield 7, 3) := by decide +kernel
theorem dX7_begins_20 : decode cX7_begins 20 = .ok (.iconst 3, 1) := by decide +kernel
theorem dX7_begins_21 : decode cX7_begins 21 = .ok (.iaload, 1) := by decide +kernel
theorem dX7_begins_22 : decode cX7_begins 22 = .ok (.iastore, 1) := by decide +kernel
theorem dX7_begins_23 : decode cX7_begins 23 = .ok (.return_, 1) := by decide +kernel
theorem dX7_minute_0 : decode cX7_minute 0 = .ok (.aload_n 0, 1) := by decide +kernel
theorem dX7_minute_1 : decode cX7_minute 1 = .ok (.invokevirtual 117, 3) := by decide +kernel
theorem dX7_minute_4 : decode cX7_minute 4 = .ok (.aload_n 0, 1) := by decide +kernel
theorem dX7_minute_5 : decode cX7_minute 5 = .ok (.invokevirtual 120, 3) := by decide +kernel
theorem dX7_minute_8 : decode cX7_minute 8 = .ok (.aload_n 0, 1) := by decide +kernel
theorem dX7_minute_9 : decode cX7_minute 9 = .ok (.bipush 6, 2) := by decide +kernel
theorem dX7_minute_11 : decode cX7_minute 11 = .ok (.invokevirtual 64, 3) := by decide +kernel
theorem dX7_minute_14 : decode cX7_minute 14 = .ok (.istore_n 1, 1) := by decide +kernel
theorem dX7_minute_15 : decode cX7_minute 15 = .ok (.iload_n 1, 1) := by decide +kernel
theorem dX7_minute_16 : decode cX7_minute 16 = .ok (.iconst (-1), 1) := by decide +kernel
theorem dX7_minute_17 : decode cX7_minute 17 = .ok (.if_icmp .ne 10, 3) := by decide +kernel
theorem dX7_minute_20 : decode cX7_minute 20 = .ok (.aload_n 0, 1) := by decide +kernel
theorem dX7_minute_21 : decode cX7_minute 21 = .ok (.invokevirtual 123, 3) := by decide +kernel
theorem dX7_minute_24 : decode cX7_minute 24 = .ok (.goto 8, 3) := by decide +kernel
theorem dX7_minute_27 : decode cX7_minute 27 = .ok (.aload_n 0, 1) := by decide +kernel
theorem dX7_minute_28 : decode cX7_minute 28 = .ok (.iload_n 1, 1) := by decide +kernel
theorem dX7_minute_29 : decode cX7_minute 29 = .ok (.invokevirtual 126, 3) := by decide +kernel
theorem dX7_minute_32 : decode cX7_minute 32 = .ok (.aload_n 0, 1) := by decide +kernel
theorem dX7_minute_33 : decode cX7_minute 33 = .ok (.invokevirtual 129, 3) := by decide +kernel
theorem dX7_minute_36 : decode cX7_minute 36 = .ok (.aload_n 0, 1) := by decide +kernel
theorem dX7_minute_37 : decode cX7_minute 37 = .ok (.getfield 7, 3) := by decide +kernel
theorem dX7_minute_40 : decode cX7_minute 40 = .ok (.iconst 4, 1) := by decide +kernel
theorem dX7_minute_41 : decode cX7_minute 41 = .ok (.dup2, 1) := by decide +kernel
theorem dX7_minute_42 : decode cX7_minute 42 = .ok (.iaload, 1) := by decide +kernel
theorem dX7_minute_43 : decode cX7_minute 43 = .ok (.iconst 1, 1) := by decide +kernel
theorem dX7_minute_44 : decode cX7_minute 44 = .ok (.iadd, 1) := by decide +kernel
theorem dX7_minute_45 : decode cX7_minute 45 = .ok (.iastore, 1) := by decide +kernel
theorem dX7_minute_46 : decode cX7_minute 46 = .ok (.return_, 1) := by decide +kernel
theorem dX7_minutes_0 : decode cX7_minutes 0 = .ok (.aload_n 0, 1) := by decide +kernel
theorem dX7_minutes_1 : decode cX7_minutes 1 = .ok (.getfield 7, 3) := by decide +kernel
theorem dX7_minutes_4 : decode cX7_minutes 4 = .ok (.bipush 7, 2) := by decide +kernel
theorem dX7_minutes_6 : decode cX7_minutes 6 = .ok (.iaload, 1) := by decide +kernel
theorem dX7_minutes_7 : decode cX7_minutes 7 = .ok (.istore_n 2, 1) := by decide +kernel
theorem dX7_minutes_8 : decode cX7_minutes 8 = .ok (.iconst 0, 1) := by decide +kernel
theorem dX7_minutes_9 : decode cX7_minutes 9 = .ok (.istore_n 3, 1) := by decide +kernel
theorem dX7_minutes_10 : decode cX7_minutes 10 = .ok (.iload_n 3, 1) := by decide +kernel
theorem dX7_minutes_11 : decode cX7_minutes 11 = .ok (.iload_n 1, 1) := by decide +kernel
theorem dX7_minutes_12 : decode cX7_minutes 12 = .ok (.if_icmp .ge 13, 3) := by decide +kernel
theorem dX7_minutes_15 : decode cX7_minutes 15 = .ok (.aload_n 0, 1) := by decide +kernel
theorem dX7_minutes_16 : decode cX7_minutes 16 = .ok (.invokevirtual 132, 3) := by decide +kernel
theorem dX7_minutes_19 : decode cX7_minutes 19 = .ok (.iinc 3 1, 3) := by decide +kernel
theorem dX7_minutes_22 : decode cX7_minutes 22 = .ok (.goto (-12), 3) := by decide +kernel
theorem dX7_minutes_25 : decode cX7_minutes 25 = .ok (.aload_n 0, 1) := by decide +kernel
theorem dX7_minutes_26 : decode cX7_minutes 26 = .ok (.getfield 7, 3) := by decide +kernel
theorem dX7_minutes_29 : decode cX7_minutes 29 = .ok (.bipush 7, 2) := by decide +kernel
theorem dX7_minutes_31 : decode cX7_minutes 31 = .ok (.iaload, 1) := by decide +kernel
theorem dX7_minutes_32 : decode cX7_minutes 32 = .ok (.iload_n 2, 1) := by decide +kernel
theorem dX7_minutes_33 : decode cX7_minutes 33 = .ok (.isub, 1) := by decide +kernel
theorem dX7_minutes_34 : decode cX7_minutes 34 = .ok (.ireturn, 1) := by decide +kernel
theorem dX7_stock_0 : decode cX7_stock 0 = .ok (.aload_n 0, 1) := by decide +kernel
theorem dX7_stock_1 : decode cX7_stock 1 = .ok (.iconst 0, 1) := by decide +kernel
theorem dX7_stock_2 : decode cX7_stock 2 = .ok (.putfield 25, 3) := by decide +kernel
theorem dX7_stock_5 : decode cX7_stock 5 = .ok (.iload_n 1, 1) := by decide +kernel
theorem dX7_stock_6 : decode cX7_stock 6 = .ok (.invokestatic 135, 3) := by decide +kernel
theorem dX7_stock_9 : decode cX7_stock 9 = .ok (.ifCond .ne 9, 3) := by decide +kernel
theorem dX7_stock_12 : decode cX7_stock 12 = .ok (.aload_n 0, 1) := by decide +kernel
theorem dX7_stock_13 : decode cX7_stock 13 = .ok (.iconst 1, 1) := by decide +kernel
theorem dX7_stock_14 : decode cX7_stock 14 = .ok (.invokevirtual 138, 3) := by decide +kernel
theorem dX7_stock_17 : decode cX7_stock 17 = .ok (.ireturn, 1) := by decide +kernel
theorem dX7_stock_18 : decode cX7_stock 18 = .ok (.iload_n 2, 1) := by decide +kernel
theorem dX7_stock_19 : decode cX7_stock 19 = .ok (.iconst 1, 1) := by decide +kernel
theorem dX7_stock_20 : decode cX7_stock 20 = .ok (.bipush 99, 2) := by decide +kernel
theorem dX7_stock_22 : decode cX7_stock 22 = .ok (.invokestatic 29, 3) := by decide +kernel
theorem dX7_stock_25 : decode cX7_stock 25 = .ok (.ifCond .ne 9, 3) := by decide +kernel
theorem dX7_stock_28 : decode cX7_stock 28 = .ok (.aload_n 0, 1) := by decide +kernel
theorem dX7_stock_29 : decode cX7_stock 29 = .ok (.iconst 2, 1) := by decide +kernel
theorem dX7_stock_30 : decode cX7_stock 30 = .ok (.invokevirtual 138, 3) := by decide +kernel
theorem dX7_stock_33 : decode cX7_stock 33 = .ok (.ireturn, 1) := by decide +kernel
theorem dX7_stock_34 : decode cX7_stock 34 = .ok (.aload_n 0, 1) := by decide +kernel
theorem dX7_stock_35 : decode cX7_stock 35 = .ok (.iload_n 1, 1) := by decide +kernel
theorem dX7_stock_36 : decode cX7_stock 36 = .ok (.iconst 0, 1) := by decide +kernel
theorem dX7_stock_37 : decode cX7_stock 37 = .ok (.invokevirtual 89, 3) := by decide +kernel
theorem dX7_stock_40 : decode cX7_stock 40 = .ok (.iload_n 2, 1) := by decide +kernel
theorem dX7_stock_41 : decode cX7_stock 41 = .ok (.iadd, 1) := by decide +kernel
theorem dX7_stock_42 : decode cX7_stock 42 = .ok (.sipush 200, 3) := by decide +kernel
theorem dX7_stock_45 : decode cX7_stock 45 = .ok (.if_icmp .le 9, 3) := by decide +kernel
theorem dX7_stock_48 : decode cX7_stock 48 = .ok (.aload_n 0, 1) := by decide +kernel
theorem dX7_stock_49 : decode cX7_stock 49 = .ok (.iconst 3, 1) := by decide +kernel
theorem dX7_stock_50 : decode cX7_stock 50 = .ok (.invokevirtual 138, 3) := by decide +kernel
theorem dX7_stock_53 : decode cX7_stock 53 = .ok (.ireturn, 1) := by decide +kernel
theorem dX7_stock_54 : decode cX7_stock 54 = .ok (.aload_n 0, 1) := by decide +kernel
theorem dX7_stock_55 : decode cX7_stock 55 = .ok (.invokevirtual 141, 3) := by decide +kernel
theorem dX7_stock_58 : decode cX7_stock 58 = .ok (.aload_n 0, 1) := by decide +kernel
theorem dX7_stock_59 : decode cX7_stock 59 = .ok (.getfield 7, 3) := by decide +kernel
theorem dX7_stock_62 : decode cX7_stock 62 = .ok (.bipush 15, 2) := by decide +kernel
theorem dX7_stock_64 : decode cX7_stock 64 = .ok (.iconst 5, 1) := by decide +kernel
theorem dX7_stock_65 : decode cX7_stock 65 = .ok (.iload_n 1, 1) := by decide +kernel
theorem dX7_stock_66 : decode cX7_stock 66 = .ok (.imul, 1) := by decide +kernel
theorem dX7_stock_67 : decode cX7_stock 67 = .ok (.iadd, 1) := by decide +kernel
theorem dX7_stock_68 : decode cX7_stock 68 = .ok (.iconst 0, 1) := by decide +kernel
theorem dX7_stock_69 : decode cX7_stock 69 = .ok (.iadd, 1) := by decide +kernel
theorem dX7_stock_70 : decode cX7_stock 70 = .ok (.dup2, 1) := by decide +kernel
theorem dX7_stock_71 : decode cX7_stock 71 = .ok (.iaload, 1) := by decide +kernel
theorem dX7_stock_72 : decode cX7_stock 72 = .ok (.iload_n 2, 1) := by decide +kernel
theorem dX7_stock_73 : decode cX7_stock 73 = .ok (.iadd, 1) := by decide +kernel
theorem dX7_stock_74 : decode cX7_stock 74 = .ok (.iastore, 1) := by decide +kernel
theorem dX7_stock_75 : decode cX7_stock 75 = .ok (.aload_n 0, 1) := by decide +kernel
theorem dX7_stock_76 : decode cX7_stock 76 = .ok (.iload_n 1, 1) := by decide +kernel
theorem dX7_stock_77 : decode cX7_stock 77 = .ok (.iconst 0, 1) := by decide +kernel
theorem dX7_stock_78 : decode cX7_stock 78 = .ok (.invokevirtual 89, 3) := by decide +kernel
theorem dX7_stock_81 : decode cX7_stock 81 = .ok (.ireturn, 1) := by decide +kernel
theorem dX7_range_0 : decode cX7_range 0 = .ok (.aload_n 0, 1) := by decide +kernel
theorem dX7_range_1 : decode cX7_range 1 = .ok (.iconst 0, 1) := by decide +kernel
theorem dX7_range_2 : decode cX7_range 2 = .ok (.putfield 25, 3) := by decide +kernel
theorem dX7_range_5 : decode cX7_range 5 = .ok (.iload_n 1, 1) := by decide +kernel
theorem dX7_range_6 : decode cX7_range 6 = .ok (.invokestatic 135, 3) := by decide +kernel
theorem dX7_range_9 : decode cX7_range 9 = .ok (.ifCond .ne 9, 3) := by decide +kernel
theorem dX7_range_12 : decode cX7_range 12 = .ok (.aload_n 0, 1) := by decide +kernel
theorem dX7_range_13 : decode cX7_range 13 = .ok (.iconst 1, 1) := by decide +kernel
theorem dX7_range_14 : decode cX7_range 14 = .ok (.invokevirtual 138, 3) := by decide +kernel
theorem dX7_range_17 : decode cX7_range 17 = .ok (.ireturn, 1) := by decide +kernel
theorem dX7_range_18 : decode cX7_range 18 = .ok (.iload_n 2, 1) := by decide +kernel
theorem dX7_range_19 : decode cX7_range 19 = .ok (.sipush 600, 3) := by decide +kernel
theorem dX7_range_22 : decode cX7_range 22 = .ok (.sipush 1240, 3) := by decide +kernel
theorem dX7_range_25 : decode cX7_range 25 = .ok (.invokestatic 29, 3) := by decide +kernel
theorem dX7_range_28 : decode cX7_range 28 = .ok (.ifCond .eq 14, 3) := by decide +kernel
theorem dX7_range_31 : decode cX7_range 31 = .ok (.iload_n 3, 1) := by decide +kernel
theorem dX7_range_32 : decode cX7_range 32 = .ok (.iload_n 2, 1) := by decide +kernel
theorem dX7_range_33 : decode cX7_range 33 = .ok (.sipush 1240, 3) := by decide +kernel
theorem dX7_range_36 : decode cX7_range 36 = .ok (.invokestatic 29, 3) := by decide +kernel
theorem dX7_range_39 : decode cX7_range 39 = .ok (.ifCond .ne 9, 3) := by decide +kernel
theorem dX7_range_42 : decode cX7_range 42 = .ok (.aload_n 0, 1) := by decide +kernel
theorem dX7_range_43 : decode cX7_range 43 = .ok (.iconst 2, 1) := by decide +kernel
theorem dX7_range_44 : decode cX7_range 44 = .ok (.invokevirtual 138, 3) := by decide +kernel
theorem dX7_range_47 : decode cX7_range 47 = .ok (.ireturn, 1) := by decide +kernel
theorem dX7_range_48 : decode cX7_range 48 = .ok (.aload_n 0, 1) := by decide +kernel
theorem dX7_range_49 : decode cX7_range 49 = .ok (.invokevirtual 141, 3) := by decide +kernel
theorem dX7_range_52 : decode cX7_range 52 = .ok (.sipush 10000, 3) := by decide +kernel
theorem dX7_range_55 : decode cX7_range 55 = .ok (.aload_n 0, 1) := by decide +kernel
theorem dX7_range_56 : decode cX7_range 56 = .ok (.iload_n 1, 1) := by decide +kernel
theorem dX7_range_57 : decode cX7_range 57 = .ok (.iconst 1, 1) := by decide +kernel
theorem dX7_range_58 : decode cX7_range 58 = .ok (.invokevirtual 89, 3) := by decide +kernel
theorem dX7_range_61 : decode cX7_range 61 = .ok (.imul, 1) := by decide +kernel
theorem dX7_range_62 : decode cX7_range 62 = .ok (.aload_n 0, 1) := by decide +kernel
theorem dX7_range_63 : decode cX7_range 63 = .ok (.iload_n 1, 1) := by decide +kernel
theorem dX7_range_64 : decode cX7_range 64 = .ok (.iconst 2, 1) := by decide +kernel
theorem dX7_range_65 : decode cX7_range 65 = .ok (.invokevirtual 89, 3) := by decide +kernel
theorem dX7_range_68 : decode cX7_range 68 = .ok (.iadd, 1) := by decide +kernel
theorem dX7_range_69 : decode cX7_range 69 = .ok (.istore 4, 2) := by decide +kernel
theorem dX7_range_71 : decode cX7_range 71 = .ok (.aload_n 0, 1) := by decide +kernel
theorem dX7_range_72 : decode cX7_range 72 = .ok (.getfield 7, 3) := by decide +kernel
theorem dX7_range_75 : decode cX7_range 75 = .ok (.bipush 15, 2) := by decide +kernel
theorem dX7_range_77 : decode cX7_range 77 = .ok (.iconst 5, 1) := by decide +kernel
theorem dX7_range_78 : decode cX7_range 78 = .ok (.iload_n 1, 1) := by decide +kernel
theorem dX7_range_79 : decode cX7_range 79 = .ok (.imul, 1) := by decide +kernel
theorem dX7_range_80 : decode cX7_range 80 = .ok (.iadd, 1) := by decide +kernel
theorem dX7_range_81 : decode cX7_range 81 = .ok (.iconst 1, 1) := by decide +kernel
theorem dX7_range_82 : decode cX7_range 82 = .ok (.iadd, 1) := by decide +kernel
theorem dX7_range_83 : decode cX7_range 83 = .ok (.iload_n 2, 1) := by decide +kernel
theorem dX7_range_84 : decode cX7_range 84 = .ok (.iastore, 1) := by decide +kernel
theorem dX7_range_85 : decode cX7_range 85 = .ok (.aload_n 0, 1) := by decide +kernel
theorem dX7_range_86 : decode cX7_range 86 = .ok (.getfield 7, 3) := by decide +kernel
theorem dX7_range_89 : decode cX7_range 89 = .ok (.bipush 15, 2) := by decide +kernel
theorem dX7_range_91 : decode cX7_range 91 = .ok (.iconst 5, 1) := by decide +kernel
theorem dX7_range_92 : decode cX7_range 92 = .ok (.iload_n 1, 1) := by decide +kernel
theorem dX7_range_93 : decode cX7_range 93 = .ok (.imul, 1) := by decide +kernel
theorem dX7_range_94 : decode cX7_range 94 = .ok (.iadd, 1) := by decide +kernel
theorem dX7_range_95 : decode cX7_range 95 = .ok (.iconst 2, 1) := by decide +kernel
theorem dX7_range_96 : decode cX7_range 96 = .ok (.iadd, 1) := by decide +kernel
theorem dX7_range_97 : decode cX7_range 97 = .ok (.iload_n 3, 1) := by decide +kernel
theorem dX7_range_98 : decode cX7_range 98 = .ok (.iastore, 1) := by decide +kernel
theorem dX7_range_99 : decode cX7_range 99 = .ok (.iload 4, 2) := by decide +kernel
theorem dX7_range_101 : decode cX7_range 101 = .ok (.ireturn, 1) := by decide +kernel
theorem dX7_die_0 : decode cX7_die 0 = .ok (.aload_n 0, 1) := by decide +kernel
theorem dX7_die_1 : decode cX7_die 1 = .ok (.iconst 0, 1) := by decide +kernel
theorem dX7_die_2 : decode cX7_die 2 = .ok (.putfield 25, 3) := by decide +kernel
theorem dX7_die_5 : decode cX7_die 5 = .ok (.iload_n 1, 1) := by decide +kernel
theorem dX7_die_6 : decode cX7_die 6 = .ok (.invokestatic 144, 3) := by decide +kernel
theorem dX7_die_9 : decode cX7_die 9 = .ok (.ifCond .ne 9, 3) := by decide +kernel
theorem dX7_die_12 : decode cX7_die 12 = .ok (.aload_n 0, 1) := by decide +kernel
theorem dX7_die_13 : decode cX7_die 13 = .ok (.iconst 1, 1) := by decide +kernel
theorem dX7_die_14 : decode cX7_die 14 = .ok (.invokevirtual 138, 3) := by decide +kernel
theorem dX7_die_17 : decode cX7_die 17 = .ok (.ireturn, 1) := by decide +kernel
theorem dX7_die_18 : decode cX7_die 18 = .ok (.iload_n 2, 1) := by decide +kernel
theorem dX7_die_19 : decode cX7_die 19 = .ok (.iconst 1, 1) := by decide +kernel
theorem dX7_die_20 : decode cX7_die 20 = .ok (.bipush 9, 2) := by decide +kernel
theorem dX7_die_22 : decode cX7_die 22 = .ok (.invokestatic 29, 3) := by decide +kernel
theorem dX7_die_25 : decode cX7_die 25 = .ok (.ifCond .eq 15, 3) := by decide +kernel
theorem dX7_die_28 : decode cX7_die 28 = .ok (.iload_n 3, 1) := by decide +kernel
theorem dX7_die_29 : decode cX7_die 29 = .ok (.bipush 10, 2) := by decide +kernel
theorem dX7_die_31 : decode cX7_die 31 = .ok (.sipush 300, 3) := by decide +kernel
theorem dX7_die_34 : decode cX7_die 34 = .ok (.invokestatic 29, 3) := by decide +kernel
theorem dX7_die_37 : decode cX7_die 37 = .ok (.ifCond .ne 9, 3) := by decide +kernel
theorem dX7_die_40 : decode cX7_die 40 = .ok (.aload_n 0, 1) := by decide +kernel
theorem dX7_die_41 : decode cX7_die 41 = .ok (.iconst 2, 1) := by decide +kernel
theorem dX7_die_42 : decode cX7_die 42 = .ok (.invokevirtual 138, 3) := by decide +kernel
theorem dX7_die_45 : decode cX7_die 45 = .ok (.ireturn, 1) := by decide +kernel
theorem dX7_die_46 : decode cX7_die 46 = .ok (.aload_n 0, 1) := by decide +kernel
theorem dX7_die_47 : decode cX7_die 47 = .ok (.iload_n 1, 1) := by decide +kernel
theorem dX7_die_48 : decode cX7_die 48 = .ok (.invokevirtual 44, 3) := by decide +kernel
theorem dX7_die_51 : decode cX7_die 51 = .ok (.ifCond .eq 9, 3) := by decide +kernel
theorem dX7_die_54 : decode cX7_die 54 = .ok (.aload_n 0, 1) := by decide +kernel
theorem dX7_die_55 : decode cX7_die 55 = .ok (.iconst 3, 1) := by decide +kernel
theorem dX7_die_56 : decode cX7_die 56 = .ok (.invokevirtual 138, 3) := by decide +kernel
theorem dX7_die_59 : decode cX7_die 59 = .ok (.ireturn, 1) := by decide +kernel
theorem dX7_die_60 : decode cX7_die 60 = .ok (.aload_n 0, 1) := by decide +kernel
theorem dX7_die_61 : decode cX7_die 61 = .ok (.invokevirtual 141, 3) := by decide +kernel
theorem dX7_die_64 : decode cX7_die 64 = .ok (.aload_n 0, 1) := by decide +kernel
theorem dX7_die_65 : decode cX7_die 65 = .ok (.iload_n 1, 1) := by decide +kernel
theorem dX7_die_66 : decode cX7_die 66 = .ok (.iconst 2, 1) := by decide +kernel
theorem dX7_die_67 : decode cX7_die 67 = .ok (.invokevirtual 36, 3) := by decide +kernel
theorem dX7_die_70 : decode cX7_die 70 = .ok (.istore 4, 2) := by decide +kernel
theorem dX7_die_72 : decode cX7_die 72 = .ok (.aload_n 0, 1) := by decide +kernel
theorem dX7_die_73 : decode cX7_die 73 = .ok (.getfield 7, 3) := by decide +kernel
theorem dX7_die_76 : decode cX7_die 76 = .ok (.bipush 35, 2) := by decide +kernel
theorem dX7_die_78 : decode cX7_die 78 = .ok (.iconst 5, 1) := by decide +kernel
theorem dX7_die_79 : decode cX7_die 79 = .ok (.iload_n 1, 1) := by decide +kernel
theorem dX7_die_80 : decode cX7_die 80 = .ok (.imul, 1) := by decide +kernel
theorem dX7_die_81 : decode cX7_die 81 = .ok (.iadd, 1) := by decide +kernel
theorem dX7_die_82 : decode cX7_die 82 = .ok (.iconst 0, 1) := by decide +kernel
theorem dX7_die_83 : decode cX7_die 83 = .ok (.iadd, 1) := by decide +kernel
theorem dX7_die_84 : decode cX7_die 84 = .ok (.iload_n 2, 1) := by decide +kernel
theorem dX7_die_85 : decode cX7_die 85 = .ok (.iastore, 1) := by decide +kernel
theorem dX7_die_86 : decode cX7_die 86 = .ok (.aload_n 0, 1) := by decide +kernel
theorem dX7_die_87 : decode cX7_die 87 = .ok (.getfield 7, 3) := by decide +kernel
theorem dX7_die_90 : decode cX7_die 90 = .ok (.bipush 35, 2) := by decide +kernel
theorem dX7_die_92 : decode cX7_die 92 = .ok (.iconst 5, 1) := by decide +kernel
theorem dX7_die_93 : decode cX7_die 93 = .ok (.iload_n 1, 1) := by decide +kernel
theorem dX7_die_94 : decode cX7_die 94 = .ok (.imul, 1) := by decide +kernel
theorem dX7_die_95 : decode cX7_die 95 = .ok (.iadd, 1) := by decide +kernel
theorem dX7_die_96 : decode cX7_die 96 = .ok (.iconst 1, 1) := by decide +kernel
theorem dX7_die_97 : decode cX7_die 97 = .ok (.iadd, 1) := by decide +kernel
theorem dX7_die_98 : decode cX7_die 98 = .ok (.iload_n 3, 1) := by decide +kernel
theorem dX7_die_99 : decode cX7_die 99 = .ok (.iastore, 1) := by decide +kernel
theorem dX7_die_100 : decode cX7_die 100 = .ok (.aload_n 0, 1) := by decide +kernel
theorem dX7_die_101 : decode cX7_die 101 = .ok (.getfield 7, 3) := by decide +kernel
theorem dX7_die_104 : decode cX7_die 104 = .ok (.bipush 35, 2) := by decide +kernel
theorem dX7_die_106 : decode cX7_die 106 = .ok (.iconst 5, 1) := by decide +kernel
theorem dX7_die_107 : decode cX7_die 107 = .ok (.iload_n 1, 1) := by decide +kernel
theorem dX7_die_108 : decode cX7_die 108 = .ok (.imul, 1) := by decide +kernel
theorem dX7_die_109 : decode cX7_die 109 = .ok (.iadd, 1) := by decide +kernel
theorem dX7_die_110 : decode cX7_die 110 = .ok (.iconst 2, 1) := by decide +kernel
theorem dX7_die_111 : decode cX7_die 111 = .ok (.iadd, 1) := by decide +kernel
theorem dX7_die_112 : decode cX7_die 112 = .ok (.iconst 0, 1) := by decide +kernel
theorem dX7_die_113 : decode cX7_die 113 = .ok (.iastore, 1) := by decide +kernel
theorem dX7_die_114 : decode cX7_die 114 = .ok (.iload 4, 2) := by decide +kernel
theorem dX7_die_116 : decode cX7_die 116 = .ok (.ireturn, 1) := by decide +kernel
theorem dX7_grind_0 : decode cX7_grind 0 = .ok (.aload_n 0, 1) := by decide +kernel
theorem dX7_grind_1 : decode cX7_grind 1 = .ok (.iconst 0, 1) := by decide +kernel
theorem dX7_grind_2 : decode cX7_grind 2 = .ok (.putfield 25, 3) := by decide +kernel
theorem dX7_grind_5 : decode cX7_grind 5 = .ok (.iload_n 1, 1) := by decide +kernel
theorem dX7_grind_6 : decode cX7_grind 6 = .ok (.invokestatic 144, 3) := by decide +kernel
theorem dX7_grind_9 : decode cX7_grind 9 = .ok (.ifCond .ne 9, 3) := by decide +kernel
theorem dX7_grind_12 : decode cX7_grind 12 = .ok (.aload_n 0, 1) := by decide +kernel
theorem dX7_grind_13 : decode cX7_grind 13 = .ok (.iconst 1, 1) := by decide +kernel
theorem dX7_grind_14 : decode cX7_grind 14 = .ok (.invokevirtual 138, 3) := by decide +kernel
theorem dX7_grind_17 : decode cX7_grind 17 = .ok (.ireturn, 1) := by decide +kernel
theorem dX7_grind_18 : decode cX7_grind 18 = .ok (.aload_n 0, 1) := by decide +kernel
theorem dX7_grind_19 : decode cX7_grind 19 = .ok (.getfield 7, 3) := by decide +kernel
theorem dX7_grind_22 : decode cX7_grind 22 = .ok (.bipush 13, 2) := by decide +kernel
theorem dX7_grind_24 : decode cX7_grind 24 = .ok (.iaload, 1) := by decide +kernel
theorem dX7_grind_25 : decode cX7_grind 25 = .ok (.ifCond .le 9, 3) := by decide +kernel
theorem dX7_grind_28 : decode cX7_grind 28 = .ok (.aload_n 0, 1) := by decide +kernel
theorem dX7_grind_29 : decode cX7_grind 29 = .ok (.iconst 2, 1) := by decide +kernel
theorem dX7_grind_30 : decode cX7_grind 30 = .ok (.invokevirtual 138, 3) := by decide +kernel
theorem dX7_grind_33 : decode cX7_grind 33 = .ok (.ireturn, 1) := by decide +kernel
theorem dX7_grind_34 : decode cX7_grind 34 = .ok (.aload_n 0, 1) := by decide +kernel
theorem dX7_grind_35 : decode cX7_grind 35 = .ok (.invokevirtual 141, 3) := by decide +kernel
theorem dX7_grind_38 : decode cX7_grind 38 = .ok (.aload_n 0, 1) := by decide +kernel
theorem dX7_grind_39 : decode cX7_grind 39 = .ok (.iload_n 1, 1) := by decide +kernel
theorem dX7_grind_40 : decode cX7_grind 40 = .ok (.invokevirtual 114, 3) := by decide +kernel
theorem dX7_grind_43 : decode cX7_grind 43 = .ok (.aload_n 0, 1) := by decide +kernel
theorem dX7_grind_44 : decode cX7_grind 44 = .ok (.iload_n 1, 1) := by decide +kernel
theorem dX7_grind_45 : decode cX7_grind 45 = .ok (.iconst 2, 1) := by decide +kernel
theorem dX7_grind_46 : decode cX7_grind 46 = .ok (.invokevirtual 36, 3) := by decide +kernel
theorem dX7_grind_49 : decode cX7_grind 49 = .ok (.ireturn, 1) := by decide +kernel
theorem dX7_comes_0 : decode cX7_comes 0 = .ok (.bipush 60, 2) := by decide +kernel
theorem dX7_comes_2 : decode cX7_comes 2 = .ok (.bipush 7, 2) := by decide +kernel
theorem dX7_comes_4 : decode cX7_comes 4 = .ok (.aload_n 0, 1) := by decide +kernel
theorem dX7_comes_5 : decode cX7_comes 5 = .ok (.getfield 7, 3) := by decide +kernel
theorem dX7_comes_8 : decode cX7_comes 8 = .ok (.iconst 5, 1) := by decide +kernel
theorem dX7_comes_9 : decode cX7_comes 9 = .ok (.iaload, 1) := by decide +kernel
theorem dX7_comes_10 : decode cX7_comes 10 = .ok (.imul, 1) := by decide +kernel
theorem dX7_comes_11 : decode cX7_comes 11 = .ok (.iadd, 1) := by decide +kernel
theorem dX7_comes_12 : decode cX7_comes 12 = .ok (.istore 6, 2) := by decide +kernel
theorem dX7_comes_14 : decode cX7_comes 14 = .ok (.aload_n 0, 1) := by decide +kernel
theorem dX7_comes_15 : decode cX7_comes 15 = .ok (.getfield 7, 3) := by decide +kernel
theorem dX7_comes_18 : decode cX7_comes 18 = .ok (.iload 6, 2) := by decide +kernel
theorem dX7_comes_20 : decode cX7_comes 20 = .ok (.iconst 0, 1) := by decide +kernel
theorem dX7_comes_21 : decode cX7_comes 21 = .ok (.iadd, 1) := by decide +kernel
theorem dX7_comes_22 : decode cX7_comes 22 = .ok (.aload_n 0, 1) := by decide +kernel
theorem dX7_comes_23 : decode cX7_comes 23 = .ok (.getfield 7, 3) := by decide +kernel
theorem dX7_comes_26 : decode cX7_comes 26 = .ok (.bipush 6, 2) := by decide +kernel
theorem dX7_comes_28 : decode cX7_comes 28 = .ok (.iaload, 1) := by decide +kernel
theorem dX7_comes_29 : decode cX7_comes 29 = .ok (.iastore, 1) := by decide +kernel
theorem dX7_comes_30 : decode cX7_comes 30 = .ok (.aload_n 0, 1) := by decide +kernel
theorem dX7_comes_31 : decode cX7_comes 31 = .ok (.getfield 7, 3) := by decide +kernel
theorem dX7_comes_34 : decode cX7_comes 34 = .ok (.iload 6, 2) := by decide +kernel
theorem dX7_comes_36 : decode cX7_comes 36 = .ok (.iconst 1, 1) := by decide +kernel
theorem dX7_comes_37 : decode cX7_comes 37 = .ok (.iadd, 1) := by decide +kernel
theorem dX7_comes_38 : decode cX7_comes 38 = .ok (.iload_n 1, 1) := by decide +kernel
theorem dX7_comes_39 : decode cX7_comes 39 = .ok (.iastore, 1) := by decide +kernel
theorem dX7_comes_40 : decode cX7_comes 40 = .ok (.aload_n 0, 1) := by decide +kernel
theorem dX7_comes_41 : decode cX7_comes 41 = .ok (.getfield 7, 3) := by decide +kernel
theorem dX7_comes_44 : decode cX7_comes 44 = .ok (.iload 6, 2) := by decide +kernel
theorem dX7_comes_46 : decode cX7_comes 46 = .ok (.iconst 2, 1) := by decide +kernel
theorem dX7_comes_47 : decode cX7_comes 47 = .ok (.iadd, 1) := by decide +kernel
theorem dX7_comes_48 : decode cX7_comes 48 = .ok (.iload_n 2, 1) := by decide +kernel
theorem dX7_comes_49 : decode cX7_comes 49 = .ok (.iastore, 1) := by decide +kernel
theorem dX7_comes_50 : decode cX7_comes 50 = .ok (.aload_n 0, 1) := by decide +kernel
theorem dX7_comes_51 : decode cX7_comes 51 = .ok (.getfield 7, 3) := by decide +kernel
theorem dX7_comes_54 : decode cX7_comes 54 = .ok (.iload 6, 2) := by decide +kernel
theorem dX7_comes_56 : decode cX7_comes 56 = .ok (.iconst 3, 1) := by decide +kernel
theorem dX7_comes_57 : decode cX7_comes 57 = .ok (.iadd, 1) := by decide +kernel
theorem dX7_comes_58 : decode cX7_comes 58 = .ok (.iload_n 3, 1) := by decide +kernel
theorem dX7_comes_59 : decode cX7_comes 59 = .ok (.iastore, 1) := by decide +kernel
theorem dX7_comes_60 : decode cX7_comes 60 = .ok (.aload_n 0, 1) := by decide +kernel
theorem dX7_comes_61 : decode cX7_comes 61 = .ok (.getfield 7, 3) := by decide +kernel
theorem dX7_comes_64 : decode cX7_comes 64 = .ok (.iload 6, 2) := by decide +kernel
theorem dX7_comes_66 : decode cX7_comes 66 = .ok (.iconst 4, 1) := by decide +kernel
theorem dX7_comes_67 : decode cX7_comes 67 = .ok (.iadd, 1) := by decide +kernel
theorem dX7_comes_68 : decode cX7_comes 68 = .ok (.iconst 0, 1) := by decide +kernel
theorem dX7_comes_69 : decode cX7_comes 69 = .ok (.iastore, 1) := by decide +kernel
theorem dX7_comes_70 : decode cX7_comes 70 = .ok (.aload_n 0, 1) := by decide +kernel
theorem dX7_comes_71 : decode cX7_comes 71 = .ok (.getfield 7, 3) := by decide +kernel
theorem dX7_comes_74 : decode cX7_comes 74 = .ok (.iload 6, 2) := by decide +kernel
theorem dX7_comes_76 : decode cX7_comes 76 = .ok (.iconst 5, 1) := by decide +kernel
theorem dX7_comes_77 : decode cX7_comes 77 = .ok (.iadd, 1) := by decide +kernel
theorem dX7_comes_78 : decode cX7_comes 78 = .ok (.iload 4, 2) := by decide +kernel
theorem dX7_comes_80 : decode cX7_comes 80 = .ok (.iastore, 1) := by decide +kernel
theorem dX7_comes_81 : decode cX7_comes 81 = .ok (.aload_n 0, 1) := by decide +kernel
theorem dX7_comes_82 : decode cX7_comes 82 = .ok (.getfield 7, 3) := by decide +kernel
theorem dX7_comes_85 : decode cX7_comes 85 = .ok (.iload 6, 2) := by decide +kernel
theorem dX7_comes_87 : decode cX7_comes 87 = .ok (.bipush 6, 2) := by decide +kernel
theorem dX7_comes_89 : decode cX7_comes 89 = .ok (.iadd, 1) := by decide +kernel
theorem dX7_comes_90 : decode cX7_comes 90 = .ok (.iload 5, 2) := by decide +kernel
theorem dX7_comes_92 : decode cX7_comes 92 = .ok (.iastore, 1) := by decide +kernel
theorem dX7_comes_93 : decode cX7_comes 93 = .ok (.aload_n 0, 1) := by decide +kernel
theorem dX7_comes_94 : decode cX7_comes 94 = .ok (.getfield 7, 3) := by decide +kernel
theorem dX7_comes_97 : decode cX7_comes 97 = .ok (.iconst 5, 1) := by decide +kernel
theorem dX7_comes_98 : decode cX7_comes 98 = .ok (.dup2, 1) := by decide +kernel
theorem dX7_comes_99 : decode cX7_comes 99 = .ok (.iaload, 1) := by decide +kernel
theorem dX7_comes_100 : decode cX7_comes 100 = .ok (.iconst 1, 1) := by decide +kernel
theorem dX7_comes_101 : decode cX7_comes 101 = .ok (.iadd, 1) := by decide +kernel
theorem dX7_comes_102 : decode cX7_comes 102 = .ok (.iastore, 1) := by decide +kernel
theorem dX7_comes_103 : decode cX7_comes 103 = .ok (.aload_n 0, 1) := by decide +kernel
theorem dX7_comes_104 : decode cX7_comes 104 = .ok (.getfield 7, 3) := by decide +kernel
theorem dX7_comes_107 : decode cX7_comes 107 = .ok (.bipush 6, 2) := by decide +kernel
theorem dX7_comes_109 : decode cX7_comes 109 = .ok (.dup2, 1) := by decide +kernel
theorem dX7_comes_110 : decode cX7_comes 110 = .ok (.iaload, 1) := by decide +kernel
theorem dX7_comes_111 : decode cX7_comes 111 = .ok (.iconst 1, 1) := by decide +kernel
theorem dX7_comes_112 : decode cX7_comes 112 = .ok (.iadd, 1) := by decide +kernel
theorem dX7_comes_113 : decode cX7_comes 113 = .ok (.iastore, 1) := by decide +kernel
theorem dX7_comes_114 : decode cX7_comes 114 = .ok (.return_, 1) := by decide +kernel
theorem dX7_job_0 : decode cX7_job 0 = .ok (.aload_n 0, 1) := by decide +kernel
theorem dX7_job_1 : decode cX7_job 1 = .ok (.iconst 0, 1) := by decide +kernel
theorem dX7_job_2 : decode cX7_job 2 = .ok (.putfield 25, 3) := by decide +kernel
theorem dX7_job_5 : decode cX7_job 5 = .ok (.iload_n 1, 1) := by decide +kernel
theorem dX7_job_6 : decode cX7_job 6 = .ok (.invokestatic 144, 3) := by decide +kernel
theorem dX7_job_9 : decode cX7_job 9 = .ok (.ifCond .eq 10, 3) := by decide +kernel
theorem dX7_job_12 : decode cX7_job 12 = .ok (.iload_n 2, 1) := by decide +kernel
theorem dX7_job_13 : decode cX7_job 13 = .ok (.invokestatic 135, 3) := by decide +kernel
theorem dX7_job_16 : decode cX7_job 16 = .ok (.ifCond .ne 9, 3) := by decide +kernel
theorem dX7_job_19 : decode cX7_job 19 = .ok (.aload_n 0, 1) := by decide +kernel
theorem dX7_job_20 : decode cX7_job 20 = .ok (.iconst 1, 1) := by decide +kernel
theorem dX7_job_21 : decode cX7_job 21 = .ok (.invokevirtual 138, 3) := by decide +kernel
theorem dX7_job_24 : decode cX7_job 24 = .ok (.ireturn, 1) := by decide +kernel
theorem dX7_job_25 : decode cX7_job 25 = .ok (.iload_n 3, 1) := by decide +kernel
theorem dX7_job_26 : decode cX7_job 26 = .ok (.iconst 1, 1) := by decide +kernel
theorem dX7_job_27 : decode cX7_job 27 = .ok (.bipush 40, 2) := by decide +kernel
theorem dX7_job_29 : decode cX7_job 29 = .ok (.invokestatic 29, 3) := by decide +kernel
theorem dX7_job_32 : decode cX7_job 32 = .ok (.ifCond .eq 15, 3) := by decide +kernel
theorem dX7_job_35 : decode cX7_job 35 = .ok (.iload 4, 2) := by decide +kernel
theorem dX7_job_37 : decode cX7_job 37 = .ok (.iconst 0, 1) := by decide +kernel
theorem dX7_job_38 : decode cX7_job 38 = .ok (.sipush 9999, 3) := by decide +kernel
theorem dX7_job_41 : decode cX7_job 41 = .ok (.invokestatic 29, 3) := by decide +kernel
theorem dX7_job_44 : decode cX7_job 44 = .ok (.ifCond .ne 9, 3) := by decide +kernel
theorem dX7_job_47 : decode cX7_job 47 = .ok (.aload_n 0, 1) := by decide +kernel
theorem dX7_job_48 : decode cX7_job 48 = .ok (.iconst 2, 1) := by decide +kernel
theorem dX7_job_49 : decode cX7_job 49 = .ok (.invokevirtual 138, 3) := by decide +kernel
theorem dX7_job_52 : decode cX7_job 52 = .ok (.ireturn, 1) := by decide +kernel
theorem dX7_job_53 : decode cX7_job 53 = .ok (.aload_n 0, 1) := by decide +kernel
theorem dX7_job_54 : decode cX7_job 54 = .ok (.getfield 7, 3) := by decide +kernel
theorem dX7_job_57 : decode cX7_job 57 = .ok (.iconst 5, 1) := by decide +kernel
theorem dX7_job_58 : decode cX7_job 58 = .ok (.iaload, 1) := by decide +kernel
theorem dX7_job_59 : decode cX7_job 59 = .ok (.bipush 10, 2) := by decide +kernel
theorem dX7_job_61 : decode cX7_job 61 = .ok (.if_icmp .ne 9, 3) := by decide +kernel
theorem dX7_job_64 : decode cX7_job 64 = .ok (.aload_n 0, 1) := by decide +kernel
theorem dX7_job_65 : decode cX7_job 65 = .ok (.iconst 3, 1) := by decide +kernel
theorem dX7_job_66 : decode cX7_job 66 = .ok (.invokevirtual 138, 3) := by decide +kernel
theorem dX7_job_69 : decode cX7_job 69 = .ok (.ireturn, 1) := by decide +kernel
theorem dX7_job_70 : decode cX7_job 70 = .ok (.aload_n 0, 1) := by decide +kernel
theorem dX7_job_71 : decode cX7_job 71 = .ok (.invokevirtual 141, 3) := by decide +kernel
theorem dX7_job_74 : decode cX7_job 74 = .ok (.aload_n 0, 1) := by decide +kernel
theorem dX7_job_75 : decode cX7_job 75 = .ok (.iload_n 1, 1) := by decide +kernel
theorem dX7_job_76 : decode cX7_job 76 = .ok (.iload_n 2, 1) := by decide +kernel
theorem dX7_job_77 : decode cX7_job 77 = .ok (.iload_n 3, 1) := by decide +kernel
theorem dX7_job_78 : decode cX7_job 78 = .ok (.iload 4, 2) := by decide +kernel
theorem dX7_job_80 : decode cX7_job 80 = .ok (.iload 5, 2) := by decide +kernel
theorem dX7_job_82 : decode cX7_job 82 = .ok (.ifCond .eq 7, 3) := by decide +kernel
theorem dX7_job_85 : decode cX7_job 85 = .ok (.iconst 1, 1) := by decide +kernel
theorem dX7_job_86 : decode cX7_job 86 = .ok (.goto 4, 3) := by decide +kernel
theorem dX7_job_89 : decode cX7_job 89 = .ok (.iconst 0, 1) := by decide +kernel
theorem dX7_job_90 : decode cX7_job 90 = .ok (.invokevirtual 147, 3) := by decide +kernel
theorem dX7_job_93 : decode cX7_job 93 = .ok (.aload_n 0, 1) := by decide +kernel
theorem dX7_job_94 : decode cX7_job 94 = .ok (.getfield 7, 3) := by decide +kernel
theorem dX7_job_97 : decode cX7_job 97 = .ok (.bipush 6, 2) := by decide +kernel
theorem dX7_job_99 : decode cX7_job 99 = .ok (.iaload, 1) := by decide +kernel
theorem dX7_job_100 : decode cX7_job 100 = .ok (.iconst 1, 1) := by decide +kernel
theorem dX7_job_101 : decode cX7_job 101 = .ok (.isub, 1) := by decide +kernel
theorem dX7_job_102 : decode cX7_job 102 = .ok (.ireturn, 1) := by decide +kernel
theorem dX7_cancel_0 : decode cX7_cancel 0 = .ok (.aload_n 0, 1) := by decide +kernel
theorem dX7_cancel_1 : decode cX7_cancel 1 = .ok (.iconst 0, 1) := by decide +kernel
theorem dX7_cancel_2 : decode cX7_cancel 2 = .ok (.putfield 25, 3) := by decide +kernel
theorem dX7_cancel_5 : decode cX7_cancel 5 = .ok (.aload_n 0, 1) := by decide +kernel
theorem dX7_cancel_6 : decode cX7_cancel 6 = .ok (.iload_n 1, 1) := by decide +kernel
theorem dX7_cancel_7 : decode cX7_cancel 7 = .ok (.invokevirtual 61, 3) := by decide +kernel
theorem dX7_cancel_10 : decode cX7_cancel 10 = .ok (.istore_n 2, 1) := by decide +kernel
theorem dX7_cancel_11 : decode cX7_cancel 11 = .ok (.iload_n 2, 1) := by decide +kernel
theorem dX7_cancel_12 : decode cX7_cancel 12 = .ok (.iconst (-1), 1) := by decide +kernel
theorem dX7_cancel_13 : decode cX7_cancel 13 = .ok (.if_icmp .ne 9, 3) := by decide +kernel
theorem dX7_cancel_16 : decode cX7_cancel 16 = .ok (.aload_n 0, 1) := by decide +kernel
theorem dX7_cancel_17 : decode cX7_cancel 17 = .ok (.iconst 1, 1) := by decide +kernel
theorem dX7_cancel_18 : decode cX7_cancel 18 = .ok (.invokevirtual 138, 3) := by decide +kernel
theorem dX7_cancel_21 : decode cX7_cancel 21 = .ok (.ireturn, 1) := by decide +kernel
theorem dX7_cancel_22 : decode cX7_cancel 22 = .ok (.aload_n 0, 1) := by decide +kernel
theorem dX7_cancel_23 : decode cX7_cancel 23 = .ok (.invokevirtual 141, 3) := by decide +kernel
theorem dX7_cancel_26 : decode cX7_cancel 26 = .ok (.iconst 0, 1) := by decide +kernel
theorem dX7_cancel_27 : decode cX7_cancel 27 = .ok (.istore_n 3, 1) := by decide +kernel
theorem dX7_cancel_28 : decode cX7_cancel 28 = .ok (.iconst 0, 1) := by decide +kernel
theorem dX7_cancel_29 : decode cX7_cancel 29 = .ok (.istore 4, 2) := by decide +kernel
theorem dX7_cancel_31 : decode cX7_cancel 31 = .ok (.iload 4, 2) := by decide +kernel
theorem dX7_cancel_33 : decode cX7_cancel 33 = .ok (.bipush 6, 2) := by decide +kernel
theorem dX7_cancel_35 : decode cX7_cancel 35 = .ok (.if_icmp .gt 28, 3) := by decide +kernel
theorem dX7_cancel_38 : decode cX7_cancel 38 = .ok (.aload_n 0, 1) := by decide +kernel
theorem dX7_cancel_39 : decode cX7_cancel 39 = .ok (.iload 4, 2) := by decide +kernel
theorem dX7_cancel_41 : decode cX7_cancel 41 = .ok (.invokevirtual 64, 3) := by decide +kernel
theorem dX7_cancel_44 : decode cX7_cancel 44 = .ok (.iload_n 2, 1) := by decide +kernel
theorem dX7_cancel_45 : decode cX7_cancel 45 = .ok (.if_icmp .ne 12, 3) := by decide +kernel
theorem dX7_cancel_48 : decode cX7_cancel 48 = .ok (.aload_n 0, 1) := by decide +kernel
theorem dX7_cancel_49 : decode cX7_cancel 49 = .ok (.iload 4, 2) := by decide +kernel
theorem dX7_cancel_51 : decode cX7_cancel 51 = .ok (.invokevirtual 92, 3) := by decide +kernel
theorem dX7_cancel_54 : decode cX7_cancel 54 = .ok (.iinc 3 1, 3) := by decide +kernel
theorem dX7_cancel_57 : decode cX7_cancel 57 = .ok (.iinc 4 1, 3) := by decide +kernel
theorem dX7_cancel_60 : decode cX7_cancel 60 = .ok (.goto (-29), 3) := by decide +kernel
theorem dX7_cancel_63 : decode cX7_cancel 63 = .ok (.aload_n 0, 1) := by decide +kernel
theorem dX7_cancel_64 : decode cX7_cancel 64 = .ok (.iload_n 2, 1) := by decide +kernel
theorem dX7_cancel_65 : decode cX7_cancel 65 = .ok (.invokevirtual 99, 3) := by decide +kernel
theorem dX7_cancel_68 : decode cX7_cancel 68 = .ok (.iload_n 3, 1) := by decide +kernel
theorem dX7_cancel_69 : decode cX7_cancel 69 = .ok (.ireturn, 1) := by decide +kernel
theorem dX7_rush_0 : decode cX7_rush 0 = .ok (.aload_n 0, 1) := by decide +kernel
theorem dX7_rush_1 : decode cX7_rush 1 = .ok (.iconst 0, 1) := by decide +kernel
theorem dX7_rush_2 : decode cX7_rush 2 = .ok (.putfield 25, 3) := by decide +kernel
theorem dX7_rush_5 : decode cX7_rush 5 = .ok (.aload_n 0, 1) := by decide +kernel
theorem dX7_rush_6 : decode cX7_rush 6 = .ok (.iload_n 1, 1) := by decide +kernel
theorem dX7_rush_7 : decode cX7_rush 7 = .ok (.invokevirtual 61, 3) := by decide +kernel
theorem dX7_rush_10 : decode cX7_rush 10 = .ok (.istore_n 3, 1) := by decide +kernel
theorem dX7_rush_11 : decode cX7_rush 11 = .ok (.iload_n 3, 1) := by decide +kernel
theorem dX7_rush_12 : decode cX7_rush 12 = .ok (.iconst (-1), 1) := by decide +kernel
theorem dX7_rush_13 : decode cX7_rush 13 = .ok (.if_icmp .ne 9, 3) := by decide +kernel
theorem dX7_rush_16 : decode cX7_rush 16 = .ok (.aload_n 0, 1) := by decide +kernel
theorem dX7_rush_17 : decode cX7_rush 17 = .ok (.iconst 1, 1) := by decide +kernel
theorem dX7_rush_18 : decode cX7_rush 18 = .ok (.invokevirtual 138, 3) := by decide +kernel
theorem dX7_rush_21 : decode cX7_rush 21 = .ok (.ireturn, 1) := by decide +kernel
theorem dX7_rush_22 : decode cX7_rush 22 = .ok (.aload_n 0, 1) := by decide +kernel
theorem dX7_rush_23 : decode cX7_rush 23 = .ok (.invokevirtual 141, 3) := by decide +kernel
theorem dX7_rush_26 : decode cX7_rush 26 = .ok (.aload_n 0, 1) := by decide +kernel
theorem dX7_rush_27 : decode cX7_rush 27 = .ok (.getfield 7, 3) := by decide +kernel
theorem dX7_rush_30 : decode cX7_rush 30 = .ok (.bipush 60, 2) := by decide +kernel
theorem dX7_rush_32 : decode cX7_rush 32 = .ok (.bipush 7, 2) := by decide +kernel
theorem dX7_rush_34 : decode cX7_rush 34 = .ok (.iload_n 3, 1) := by decide +kernel
theorem dX7_rush_35 : decode cX7_rush 35 = .ok (.imul, 1) := by decide +kernel
theorem dX7_rush_36 : decode cX7_rush 36 = .ok (.iadd, 1) := by decide +kernel
theorem dX7_rush_37 : decode cX7_rush 37 = .ok (.bipush 6, 2) := by decide +kernel
theorem dX7_rush_39 : decode cX7_rush 39 = .ok (.iadd, 1) := by decide +kernel
theorem dX7_rush_40 : decode cX7_rush 40 = .ok (.iload_n 2, 1) := by decide +kernel
theorem dX7_rush_41 : decode cX7_rush 41 = .ok (.ifCond .eq 7, 3) := by decide +kernel
theorem dX7_rush_44 : decode cX7_rush 44 = .ok (.iconst 1, 1) := by decide +kernel
theorem dX7_rush_45 : decode cX7_rush 45 = .ok (.goto 4, 3) := by decide +kernel
theorem dX7_rush_48 : decode cX7_rush 48 = .ok (.iconst 0, 1) := by decide +kernel
theorem dX7_rush_49 : decode cX7_rush 49 = .ok (.iastore, 1) := by decide +kernel
theorem dX7_rush_50 : decode cX7_rush 50 = .ok (.aload_n 0, 1) := by decide +kernel
theorem dX7_rush_51 : decode cX7_rush 51 = .ok (.iload_n 3, 1) := by decide +kernel
theorem dX7_rush_52 : decode cX7_rush 52 = .ok (.invokevirtual 54, 3) := by decide +kernel
theorem dX7_rush_55 : decode cX7_rush 55 = .ok (.ireturn, 1) := by decide +kernel
theorem dX7_isSetting_0 : decode cX7_isSetting 0 = .ok (.iload_n 0, 1) := by decide +kernel
theorem dX7_isSetting_1 : decode cX7_isSetting 1 = .ok (.tableswitch 53 0 2 #[27, 37, 46], 27) := by decide +kernel
theorem dX7_isSetting_28 : decode cX7_isSetting 28 = .ok (.iload_n 1, 1) := by decide +kernel
theorem dX7_isSetting_29 : decode cX7_isSetting 29 = .ok (.bipush 10, 2) := by decide +kernel
theorem dX7_isSetting_31 : decode cX7_isSetting 31 = .ok (.sipush 300, 3) := by decide +kernel
theorem dX7_isSetting_34 : decode cX7_isSetting 34 = .ok (.invokestatic 29, 3) := by decide +kernel
theorem dX7_isSetting_37 : decode cX7_isSetting 37 = .ok (.ireturn, 1) := by decide +kernel
theorem dX7_isSetting_38 : decode cX7_isSetting 38 = .ok (.iload_n 1, 1) := by decide +kernel
theorem dX7_isSetting_39 : decode cX7_isSetting 39 = .ok (.iconst 1, 1) := by decide +kernel
theorem dX7_isSetting_40 : decode cX7_isSetting 40 = .ok (.sipush 200, 3) := by decide +kernel
theorem dX7_isSetting_43 : decode cX7_isSetting 43 = .ok (.invokestatic 29, 3) := by decide +kernel
theorem dX7_isSetting_46 : decode cX7_isSetting 46 = .ok (.ireturn, 1) := by decide +kernel
theorem dX7_isSetting_47 : decode cX7_isSetting 47 = .ok (.iload_n 1, 1) := by decide +kernel
theorem dX7_isSetting_48 : decode cX7_isSetting 48 = .ok (.iconst 0, 1) := by decide +kernel
theorem dX7_isSetting_49 : decode cX7_isSetting 49 = .ok (.iconst 3, 1) := by decide +kernel
theorem dX7_isSetting_50 : decode cX7_isSetting 50 = .ok (.invokestatic 29, 3) := by decide +kernel
theorem dX7_isSetting_53 : decode cX7_isSetting 53 = .ok (.ireturn, 1) := by decide +kernel
theorem dX7_isSetting_54 : decode cX7_isSetting 54 = .ok (.iload_n 1, 1) := by decide +kernel
theorem dX7_isSetting_55 : decode cX7_isSetting 55 = .ok (.iconst 1, 1) := by decide +kernel
theorem dX7_isSetting_56 : decode cX7_isSetting 56 = .ok (.bipush 30, 2) := by decide +kernel
theorem dX7_isSetting_58 : decode cX7_isSetting 58 = .ok (.invokestatic 29, 3) := by decide +kernel
theorem dX7_isSetting_61 : decode cX7_isSetting 61 = .ok (.ireturn, 1) := by decide +kernel
theorem dX7_set_0 : decode cX7_set 0 = .ok (.aload_n 0, 1) := by decide +kernel
theorem dX7_set_1 : decode cX7_set 1 = .ok (.iconst 0, 1) := by decide +kernel
theorem dX7_set_2 : decode cX7_set 2 = .ok (.putfield 25, 3) := by decide +kernel
theorem dX7_set_5 : decode cX7_set 5 = .ok (.iload_n 1, 1) := by decide +kernel
theorem dX7_set_6 : decode cX7_set 6 = .ok (.iconst 0, 1) := by decide +kernel
theorem dX7_set_7 : decode cX7_set 7 = .ok (.iconst 3, 1) := by decide +kernel
theorem dX7_set_8 : decode cX7_set 8 = .ok (.invokestatic 29, 3) := by decide +kernel
theorem dX7_set_11 : decode cX7_set 11 = .ok (.ifCond .ne 9, 3) := by decide +kernel
theorem dX7_set_14 : decode cX7_set 14 = .ok (.aload_n 0, 1) := by decide +kernel
theorem dX7_set_15 : decode cX7_set 15 = .ok (.iconst 1, 1) := by decide +kernel
theorem dX7_set_16 : decode cX7_set 16 = .ok (.invokevirtual 138, 3) := by decide +kernel
theorem dX7_set_19 : decode cX7_set 19 = .ok (.ireturn, 1) := by decide +kernel
theorem dX7_set_20 : decode cX7_set 20 = .ok (.iload_n 1, 1) := by decide +kernel
theorem dX7_set_21 : decode cX7_set 21 = .ok (.iload_n 2, 1) := by decide +kernel
theorem dX7_set_22 : decode cX7_set 22 = .ok (.invokestatic 151, 3) := by decide +kernel
theorem dX7_set_25 : decode cX7_set 25 = .ok (.ifCond .ne 9, 3) := by decide +kernel
theorem dX7_set_28 : decode cX7_set 28 = .ok (.aload_n 0, 1) := by decide +kernel
theorem dX7_set_29 : decode cX7_set 29 = .ok (.iconst 2, 1) := by decide +kernel
theorem dX7_set_30 : decode cX7_set 30 = .ok (.invokevirtual 138, 3) := by decide +kernel
theorem dX7_set_33 : decode cX7_set 33 = .ok (.ireturn, 1) := by decide +kernel
theorem dX7_set_34 : decode cX7_set 34 = .ok (.aload_n 0, 1) := by decide +kernel
theorem dX7_set_35 : decode cX7_set 35 = .ok (.invokevirtual 141, 3) := by decide +kernel
theorem dX7_set_38 : decode cX7_set 38 = .ok (.aload_n 0, 1) := by decide +kernel
theorem dX7_set_39 : decode cX7_set 39 = .ok (.getfield 7, 3) := by decide +kernel
theorem dX7_set_42 : decode cX7_set 42 = .ok (.iload_n 1, 1) := by decide +kernel
theorem dX7_set_43 : decode cX7_set 43 = .ok (.iaload, 1) := by decide +kernel
theorem dX7_set_44 : decode cX7_set 44 = .ok (.istore_n 3, 1) := by decide +kernel
theorem dX7_set_45 : decode cX7_set 45 = .ok (.aload_n 0, 1) := by decide +kernel
theorem dX7_set_46 : decode cX7_set 46 = .ok (.getfield 7, 3) := by decide +kernel
theorem dX7_set_49 : decode cX7_set 49 = .ok (.iload_n 1, 1) := by decide +kernel
theorem dX7_set_50 : decode cX7_set 50 = .ok (.iload_n 2, 1) := by decide +kernel
theorem dX7_set_51 : decode cX7_set 51 = .ok (.iastore, 1) := by decide +kernel
theorem dX7_set_52 : decode cX7_set 52 = .ok (.iload_n 3, 1) := by decide +kernel
theorem dX7_set_53 : decode cX7_set 53 = .ok (.ireturn, 1) := by decide +kernel
theorem dX7_pass_0 : decode cX7_pass 0 = .ok (.aload_n 0, 1) := by decide +kernel
theorem dX7_pass_1 : decode cX7_pass 1 = .ok (.iconst 0, 1) := by decide +kernel
theorem dX7_pass_2 : decode cX7_pass 2 = .ok (.putfield 25, 3) := by decide +kernel
theorem dX7_pass_5 : decode cX7_pass 5 = .ok (.iload_n 1, 1) := by decide +kernel
theorem dX7_pass_6 : decode cX7_pass 6 = .ok (.iconst 1, 1) := by decide +kernel
theorem dX7_pass_7 : decode cX7_pass 7 = .ok (.bipush 120, 2) := by decide +kernel
theorem dX7_pass_9 : decode cX7_pass 9 = .ok (.invokestatic 29, 3) := by decide +kernel
theorem dX7_pass_12 : decode cX7_pass 12 = .ok (.ifCond .ne 9, 3) := by decide +kernel
theorem dX7_pass_15 : decode cX7_pass 15 = .ok (.aload_n 0, 1) := by decide +kernel
theorem dX7_pass_16 : decode cX7_pass 16 = .ok (.iconst 1, 1) := by decide +kernel
theorem dX7_pass_17 : decode cX7_pass 17 = .ok (.invokevirtual 138, 3) := by decide +kernel
theorem dX7_pass_20 : decode cX7_pass 20 = .ok (.ireturn, 1) := by decide +kernel
theorem dX7_pass_21 : decode cX7_pass 21 = .ok (.aload_n 0, 1) := by decide +kernel
theorem dX7_pass_22 : decode cX7_pass 22 = .ok (.getfield 7, 3) := by decide +kernel
theorem dX7_pass_25 : decode cX7_pass 25 = .ok (.iconst 4, 1) := by decide +kernel
theorem dX7_pass_26 : decode cX7_pass 26 = .ok (.iaload, 1) := by decide +kernel
theorem dX7_pass_27 : decode cX7_pass 27 = .ok (.iload_n 1, 1) := by decide +kernel
theorem dX7_pass_28 : decode cX7_pass 28 = .ok (.iadd, 1) := by decide +kernel
theorem dX7_pass_29 : decode cX7_pass 29 = .ok (.sipush 9999, 3) := by decide +kernel
theorem dX7_pass_32 : decode cX7_pass 32 = .ok (.if_icmp .le 9, 3) := by decide +kernel
theorem dX7_pass_35 : decode cX7_pass 35 = .ok (.aload_n 0, 1) := by decide +kernel
theorem dX7_pass_36 : decode cX7_pass 36 = .ok (.iconst 2, 1) := by decide +kernel
theorem dX7_pass_37 : decode cX7_pass 37 = .ok (.invokevirtual 138, 3) := by decide +kernel
theorem dX7_pass_40 : decode cX7_pass 40 = .ok (.ireturn, 1) := by decide +kernel
theorem dX7_pass_41 : decode cX7_pass 41 = .ok (.aload_n 0, 1) := by decide +kernel
theorem dX7_pass_42 : decode cX7_pass 42 = .ok (.invokevirtual 141, 3) := by decide +kernel
theorem dX7_pass_45 : decode cX7_pass 45 = .ok (.aload_n 0, 1) := by decide +kernel
theorem dX7_pass_46 : decode cX7_pass 46 = .ok (.iload_n 1, 1) := by decide +kernel
theorem dX7_pass_47 : decode cX7_pass 47 = .ok (.invokevirtual 154, 3) := by decide +kernel
theorem dX7_pass_50 : decode cX7_pass 50 = .ok (.ireturn, 1) := by decide +kernel
theorem dX7_append_0 : decode cX7_append 0 = .ok (.aload_n 0, 1) := by decide +kernel
theorem dX7_append_1 : decode cX7_append 1 = .ok (.iconst 0, 1) := by decide +kernel
theorem dX7_append_2 : decode cX7_append 2 = .ok (.putfield 25, 3) := by decide +kernel
theorem dX7_append_5 : decode cX7_append 5 = .ok (.iload_n 1, 1) := by decide +kernel
theorem dX7_append_6 : decode cX7_append 6 = .ok (.bipush 33, 2) := by decide +kernel
theorem dX7_append_8 : decode cX7_append 8 = .ok (.bipush 126, 2) := by decide +kernel
theorem dX7_append_10 : decode cX7_append 10 = .ok (.invokestatic 29, 3) := by decide +kernel
theorem dX7_append_13 : decode cX7_append 13 = .ok (.ifCond .ne 9, 3) := by decide +kernel
theorem dX7_append_16 : decode cX7_append 16 = .ok (.aload_n 0, 1) := by decide +kernel
theorem dX7_append_17 : decode cX7_append 17 = .ok (.iconst 1, 1) := by decide +kernel
theorem dX7_append_18 : decode cX7_append 18 = .ok (.invokevirtual 138, 3) := by decide +kernel
theorem dX7_append_21 : decode cX7_append 21 = .ok (.ireturn, 1) := by decide +kernel
theorem dX7_append_22 : decode cX7_append 22 = .ok (.aload_n 0, 1) := by decide +kernel
theorem dX7_append_23 : decode cX7_append 23 = .ok (.getfield 157, 3) := by decide +kernel
theorem dX7_append_26 : decode cX7_append 26 = .ok (.bipush 60, 2) := by decide +kernel
theorem dX7_append_28 : decode cX7_append 28 = .ok (.if_icmp .ne 9, 3) := by decide +kernel
theorem dX7_append_31 : decode cX7_append 31 = .ok (.aload_n 0, 1) := by decide +kernel
theorem dX7_append_32 : decode cX7_append 32 = .ok (.iconst 2, 1) := by decide +kernel
theorem dX7_append_33 : decode cX7_append 33 = .ok (.invokevirtual 138, 3) := by decide +kernel
theorem dX7_append_36 : decode cX7_append 36 = .ok (.ireturn, 1) := by decide +kernel
theorem dX7_append_37 : decode cX7_append 37 = .ok (.aload_n 0, 1) := by decide +kernel
theorem dX7_append_38 : decode cX7_append 38 = .ok (.getfield 19, 3) := by decide +kernel
theorem dX7_append_41 : decode cX7_append 41 = .ok (.aload_n 0, 1) := by decide +kernel
theorem dX7_append_42 : decode cX7_append 42 = .ok (.getfield 157, 3) := by decide +kernel
theorem dX7_append_45 : decode cX7_append 45 = .ok (.iload_n 1, 1) := by decide +kernel
theorem dX7_append_46 : decode cX7_append 46 = .ok (.iastore, 1) := by decide +kernel
theorem dX7_append_47 : decode cX7_append 47 = .ok (.aload_n 0, 1) := by decide +kernel
theorem dX7_append_48 : decode cX7_append 48 = .ok (.dup, 1) := by decide +kernel
theorem dX7_append_49 : decode cX7_append 49 = .ok (.getfield 157, 3) := by decide +kernel
theorem dX7_append_52 : decode cX7_append 52 = .ok (.iconst 1, 1) := by decide +kernel
theorem dX7_append_53 : decode cX7_append 53 = .ok (.iadd, 1) := by decide +kernel
theorem dX7_append_54 : decode cX7_append 54 = .ok (.putfield 157, 3) := by decide +kernel
theorem dX7_append_57 : decode cX7_append 57 = .ok (.aload_n 0, 1) := by decide +kernel
theorem dX7_append_58 : decode cX7_append 58 = .ok (.getfield 157, 3) := by decide +kernel
theorem dX7_append_61 : decode cX7_append 61 = .ok (.ireturn, 1) := by decide +kernel
theorem dX7_clearBuffer_0 : decode cX7_clearBuffer 0 = .ok (.aload_n 0, 1) := by decide +kernel
theorem dX7_clearBuffer_1 : decode cX7_clearBuffer 1 = .ok (.iconst 0, 1) := by decide +kernel
theorem dX7_clearBuffer_2 : decode cX7_clearBuffer 2 = .ok (.putfield 25, 3) := by decide +kernel
theorem dX7_clearBuffer_5 : decode cX7_clearBuffer 5 = .ok (.aload_n 0, 1) := by decide +kernel
theorem dX7_clearBuffer_6 : decode cX7_clearBuffer 6 = .ok (.getfield 157, 3) := by decide +kernel
theorem dX7_clearBuffer_9 : decode cX7_clearBuffer 9 = .ok (.istore_n 1, 1) := by decide +kernel
theorem dX7_clearBuffer_10 : decode cX7_clearBuffer 10 = .ok (.aload_n 0, 1) := by decide +kernel
theorem dX7_clearBuffer_11 : decode cX7_clearBuffer 11 = .ok (.iconst 0, 1) := by decide +kernel
theorem dX7_clearBuffer_12 : decode cX7_clearBuffer 12 = .ok (.putfield 157, 3) := by decide +kernel
theorem dX7_clearBuffer_15 : decode cX7_clearBuffer 15 = .ok (.iload_n 1, 1) := by decide +kernel
theorem dX7_clearBuffer_16 : decode cX7_clearBuffer 16 = .ok (.ireturn, 1) := by decide +kernel
theorem dX7_sign_0 : decode cX7_sign 0 = .ok (.aload_n 0, 1) := by decide +kernel
theorem dX7_sign_1 : decode cX7_sign 1 = .ok (.getfield 160, 3) := by decide +kernel
theorem dX7_sign_4 : decode cX7_sign 4 = .ok (.aload_n 0, 1) := by decide +kernel
theorem dX7_sign_5 : decode cX7_sign 5 = .ok (.getfield 157, 3) := by decide +kernel
theorem dX7_sign_8 : decode cX7_sign 8 = .ok (.if_icmp .ge 15, 3) := by decide +kernel
theorem dX7_sign_11 : decode cX7_sign 11 = .ok (.aload_n 0, 1) := by decide +kernel
theorem dX7_sign_12 : decode cX7_sign 12 = .ok (.getfield 19, 3) := by decide +kernel
theorem dX7_sign_15 : decode cX7_sign 15 = .ok (.aload_n 0, 1) := by decide +kernel
theorem dX7_sign_16 : decode cX7_sign 16 = .ok (.getfield 160, 3) := by decide +kernel
theorem dX7_sign_19 : decode cX7_sign 19 = .ok (.iaload, 1) := by decide +kernel
theorem dX7_sign_20 : decode cX7_sign 20 = .ok (.goto 4, 3) := by decide +kernel
theorem dX7_sign_23 : decode cX7_sign 23 = .ok (.iconst 0, 1) := by decide +kernel
theorem dX7_sign_24 : decode cX7_sign 24 = .ok (.ireturn, 1) := by decide +kernel
theorem dX7_takesSign_0 : decode cX7_takesSign 0 = .ok (.aload_n 0, 1) := by decide +kernel
theorem dX7_takesSign_1 : decode cX7_takesSign 1 = .ok (.getfield 163, 3) := by decide +kernel
theorem dX7_takesSign_4 : decode cX7_takesSign 4 = .ok (.ifCond .eq 15, 3) := by decide +kernel
theorem dX7_takesSign_7 : decode cX7_takesSign 7 = .ok (.aload_n 0, 1) := by decide +kernel
theorem dX7_takesSign_8 : decode cX7_takesSign 8 = .ok (.invokevirtual 167, 3) := by decide +kernel
theorem dX7_takesSign_11 : decode cX7_takesSign 11 = .ok (.iload_n 1, 1) := by decide +kernel
theorem dX7_takesSign_12 : decode cX7_takesSign 12 = .ok (.if_icmp .ne 7, 3) := by decide +kernel
theorem dX7_takesSign_15 : decode cX7_takesSign 15 = .ok (.iconst 1, 1) := by decide +kernel
theorem dX7_takesSign_16 : decode cX7_takesSign 16 = .ok (.goto 4, 3) := by decide +kernel
theorem dX7_takesSign_19 : decode cX7_takesSign 19 = .ok (.iconst 0, 1) := by decide +kernel
theorem dX7_takesSign_20 : decode cX7_takesSign 20 = .ok (.istore_n 2, 1) := by decide +kernel
theorem dX7_takesSign_21 : decode cX7_takesSign 21 = .ok (.aload_n 0, 1) := by decide +kernel
theorem dX7_takesSign_22 : decode cX7_takesSign 22 = .ok (.dup, 1) := by decide +kernel
theorem dX7_takesSign_23 : decode cX7_takesSign 23 = .ok (.getfield 160, 3) := by decide +kernel
theorem dX7_takesSign_26 : decode cX7_takesSign 26 = .ok (.iload_n 2, 1) := by decide +kernel
theorem dX7_takesSign_27 : decode cX7_takesSign 27 = .ok (.ifCond .eq 7, 3) := by decide +kernel
theorem dX7_takesSign_30 : decode cX7_takesSign 30 = .ok (.iconst 1, 1) := by decide +kernel
theorem dX7_takesSign_31 : decode cX7_takesSign 31 = .ok (.goto 4, 3) := by decide +kernel
theorem dX7_takesSign_34 : decode cX7_takesSign 34 = .ok (.iconst 0, 1) := by decide +kernel
theorem dX7_takesSign_35 : decode cX7_takesSign 35 = .ok (.iadd, 1) := by decide +kernel
theorem dX7_takesSign_36 : decode cX7_takesSign 36 = .ok (.putfield 160, 3) := by decide +kernel
theorem dX7_takesSign_39 : decode cX7_takesSign 39 = .ok (.iload_n 2, 1) := by decide +kernel
theorem dX7_takesSign_40 : decode cX7_takesSign 40 = .ok (.ireturn, 1) := by decide +kernel
theorem dX7_number_0 : decode cX7_number 0 = .ok (.aload_n 0, 1) := by decide +kernel
theorem dX7_number_1 : decode cX7_number 1 = .ok (.aload_n 0, 1) := by decide +kernel
theorem dX7_number_2 : decode cX7_number 2 = .ok (.getfield 163, 3) := by decide +kernel
theorem dX7_number_5 : decode cX7_number 5 = .ok (.ifCond .eq 36, 3) := by decide +kernel
theorem dX7_number_8 : decode cX7_number 8 = .ok (.aload_n 0, 1) := by decide +kernel
theorem dX7_number_9 : decode cX7_number 9 = .ok (.invokevirtual 167, 3) := by decide +kernel
theorem dX7_number_12 : decode cX7_number 12 = .ok (.bipush 48, 2) := by decide +kernel
theorem dX7_number_14 : decode cX7_number 14 = .ok (.iload_n 1, 1) := by decide +kernel
theorem dX7_number_15 : decode cX7_number 15 = .ok (.iadd, 1) := by decide +kernel
theorem dX7_number_16 : decode cX7_number 16 = .ok (.iload_n 2, 1) := by decide +kernel
theorem dX7_number_17 : decode cX7_number 17 = .ok (.bipush 9, 2) := by decide +kernel
theorem dX7_number_19 : decode cX7_number 19 = .ok (.if_icmp .ge 10, 3) := by decide +kernel
theorem dX7_number_22 : decode cX7_number 22 = .ok (.bipush 48, 2) := by decide +kernel
theorem dX7_number_24 : decode cX7_number 24 = .ok (.iload_n 2, 1) := by decide +kernel
theorem dX7_number_25 : decode cX7_number 25 = .ok (.iadd, 1) := by decide +kernel
theorem dX7_number_26 : decode cX7_number 26 = .ok (.goto 5, 3) := by decide +kernel
theorem dX7_number_29 : decode cX7_number 29 = .ok (.bipush 57, 2) := by decide +kernel
theorem dX7_number_31 : decode cX7_number 31 = .ok (.invokestatic 29, 3) := by decide +kernel
theorem dX7_number_34 : decode cX7_number 34 = .ok (.ifCond .eq 7, 3) := by decide +kernel
theorem dX7_number_37 : decode cX7_number 37 = .ok (.iconst 1, 1) := by decide +kernel
theorem dX7_number_38 : decode cX7_number 38 = .ok (.goto 4, 3) := by decide +kernel
theorem dX7_number_41 : decode cX7_number 41 = .ok (.iconst 0, 1) := by decide +kernel
theorem dX7_number_42 : decode cX7_number 42 = .ok (.putfield 163, 3) := by decide +kernel
theorem dX7_number_45 : decode cX7_number 45 = .ok (.aload_n 0, 1) := by decide +kernel
theorem dX7_number_46 : decode cX7_number 46 = .ok (.invokevirtual 167, 3) := by decide +kernel
theorem dX7_number_49 : decode cX7_number 49 = .ok (.bipush 48, 2) := by decide +kernel
theorem dX7_number_51 : decode cX7_number 51 = .ok (.isub, 1) := by decide +kernel
theorem dX7_number_52 : decode cX7_number 52 = .ok (.istore_n 3, 1) := by decide +kernel
theorem dX7_number_53 : decode cX7_number 53 = .ok (.aload_n 0, 1) := by decide +kernel
theorem dX7_number_54 : decode cX7_number 54 = .ok (.dup, 1) := by decide +kernel
theorem dX7_number_55 : decode cX7_number 55 = .ok (.getfield 160, 3) := by decide +kernel
theorem dX7_number_58 : decode cX7_number 58 = .ok (.aload_n 0, 1) := by decide +kernel
theorem dX7_number_59 : decode cX7_number 59 = .ok (.getfield 163, 3) := by decide +kernel
theorem dX7_number_62 : decode cX7_number 62 = .ok (.ifCond .eq 7, 3) := by decide +kernel
theorem dX7_number_65 : decode cX7_number 65 = .ok (.iconst 1, 1) := by decide +kernel
theorem dX7_number_66 : decode cX7_number 66 = .ok (.goto 4, 3) := by decide +kernel
theorem dX7_number_69 : decode cX7_number 69 = .ok (.iconst 0, 1) := by decide +kernel
theorem dX7_number_70 : decode cX7_number 70 = .ok (.iadd, 1) := by decide +kernel
theorem dX7_number_71 : decode cX7_number 71 = .ok (.putfield 160, 3) := by decide +kernel
theorem dX7_number_74 : decode cX7_number 74 = .ok (.aload_n 0, 1) := by decide +kernel
theorem dX7_number_75 : decode cX7_number 75 = .ok (.getfield 163, 3) := by decide +kernel
theorem dX7_number_78 : decode cX7_number 78 = .ok (.ifCond .eq 63, 3) := by decide +kernel
theorem dX7_number_81 : decode cX7_number 81 = .ok (.iload_n 3, 1) := by decide +kernel
theorem dX7_number_82 : decode cX7_number 82 = .ok (.ifCond .le 59, 3) := by decide +kernel
theorem dX7_number_85 : decode cX7_number 85 = .ok (.aload_n 0, 1) := by decide +kernel
theorem dX7_number_86 : decode cX7_number 86 = .ok (.invokevirtual 167, 3) := by decide +kernel
theorem dX7_number_89 : decode cX7_number 89 = .ok (.bipush 48, 2) := by decide +kernel
theorem dX7_number_91 : decode cX7_number 91 = .ok (.bipush 57, 2) := by decide +kernel
theorem dX7_number_93 : decode cX7_number 93 = .ok (.invokestatic 29, 3) := by decide +kernel
theorem dX7_number_96 : decode cX7_number 96 = .ok (.ifCond .eq 45, 3) := by decide +kernel
theorem dX7_number_99 : decode cX7_number 99 = .ok (.bipush 10, 2) := by decide +kernel
theorem dX7_number_101 : decode cX7_number 101 = .ok (.iload_n 3, 1) := by decide +kernel
theorem dX7_number_102 : decode cX7_number 102 = .ok (.imul, 1) := by decide +kernel
theorem dX7_number_103 : decode cX7_number 103 = .ok (.aload_n 0, 1) := by decide +kernel
theorem dX7_number_104 : decode cX7_number 104 = .ok (.invokevirtual 167, 3) := by decide +kernel
theorem dX7_number_107 : decode cX7_number 107 = .ok (.iadd, 1) := by decide +kernel
theorem dX7_number_108 : decode cX7_number 108 = .ok (.bipush 48, 2) := by decide +kernel
theorem dX7_number_110 : decode cX7_number 110 = .ok (.isub, 1) := by decide +kernel
theorem dX7_number_111 : decode cX7_number 111 = .ok (.iload_n 2, 1) := by decide +kernel
theorem dX7_number_112 : decode cX7_number 112 = .ok (.if_icmp .gt 29, 3) := by decide +kernel
theorem dX7_number_115 : decode cX7_number 115 = .ok (.bipush 10, 2) := by decide +kernel
theorem dX7_number_117 : decode cX7_number 117 = .ok (.iload_n 3, 1) := by decide +kernel
theorem dX7_number_118 : decode cX7_number 118 = .ok (.imul, 1) := by decide +kernel
theorem dX7_number_119 : decode cX7_number 119 = .ok (.aload_n 0, 1) := by decide +kernel
theorem dX7_number_120 : decode cX7_number 120 = .ok (.invokevirtual 167, 3) := by decide +kernel
theorem dX7_number_123 : decode cX7_number 123 = .ok (.iadd, 1) := by decide +kernel
theorem dX7_number_124 : decode cX7_number 124 = .ok (.bipush 48, 2) := by decide +kernel
theorem dX7_number_126 : decode cX7_number 126 = .ok (.isub, 1) := by decide +kernel
theorem dX7_number_127 : decode cX7_number 127 = .ok (.istore_n 3, 1) := by decide +kernel
theorem dX7_number_128 : decode cX7_number 128 = .ok (.aload_n 0, 1) := by decide +kernel
theorem dX7_number_129 : decode cX7_number 129 = .ok (.dup, 1) := by decide +kernel
theorem dX7_number_130 : decode cX7_number 130 = .ok (.getfield 160, 3) := by decide +kernel
theorem dX7_number_133 : decode cX7_number 133 = .ok (.iconst 1, 1) := by decide +kernel
theorem dX7_number_134 : decode cX7_number 134 = .ok (.iadd, 1) := by decide +kernel
theorem dX7_number_135 : decode cX7_number 135 = .ok (.putfield 160, 3) := by decide +kernel
theorem dX7_number_138 : decode cX7_number 138 = .ok (.goto (-64), 3) := by decide +kernel
theorem dX7_number_141 : decode cX7_number 141 = .ok (.iload_n 3, 1) := by decide +kernel
theorem dX7_number_142 : decode cX7_number 142 = .ok (.ireturn, 1) := by decide +kernel
theorem dX7_readsPart_0 : decode cX7_readsPart 0 = .ok (.aload_n 0, 1) := by decide +kernel
theorem dX7_readsPart_1 : decode cX7_readsPart 1 = .ok (.iconst 1, 1) := by decide +kernel
theorem dX7_readsPart_2 : decode cX7_readsPart 2 = .ok (.bipush 40, 2) := by decide +kernel
theorem dX7_readsPart_4 : decode cX7_readsPart 4 = .ok (.invokevirtual 170, 3) := by decide +kernel
theorem dX7_readsPart_7 : decode cX7_readsPart 7 = .ok (.istore_n 1, 1) := by decide +kernel
theorem dX7_readsPart_8 : decode cX7_readsPart 8 = .ok (.aload_n 0, 1) := by decide +kernel
theorem dX7_readsPart_9 : decode cX7_readsPart 9 = .ok (.aload_n 0, 1) := by decide +kernel
theorem dX7_readsPart_10 : decode cX7_readsPart 10 = .ok (.bipush 100, 2) := by decide +kernel
theorem dX7_readsPart_12 : decode cX7_readsPart 12 = .ok (.invokevirtual 173, 3) := by decide +kernel
theorem dX7_readsPart_15 : decode cX7_readsPart 15 = .ok (.putfield 163, 3) := by decide +kernel
theorem dX7_readsPart_18 : decode cX7_readsPart 18 = .ok (.aload_n 0, 1) := by decide +kernel
theorem dX7_readsPart_19 : decode cX7_readsPart 19 = .ok (.iconst 0, 1) := by decide +kernel
theorem dX7_readsPart_20 : decode cX7_readsPart 20 = .ok (.iconst 4, 1) := by decide +kernel
theorem dX7_readsPart_21 : decode cX7_readsPart 21 = .ok (.invokevirtual 170, 3) := by decide +kernel
theorem dX7_readsPart_24 : decode cX7_readsPart 24 = .ok (.istore_n 2, 1) := by decide +kernel
theorem dX7_readsPart_25 : decode cX7_readsPart 25 = .ok (.aload_n 0, 1) := by decide +kernel
theorem dX7_readsPart_26 : decode cX7_readsPart 26 = .ok (.aload_n 0, 1) := by decide +kernel
theorem dX7_readsPart_27 : decode cX7_readsPart 27 = .ok (.bipush 104, 2) := by decide +kernel
theorem dX7_readsPart_29 : decode cX7_readsPart 29 = .ok (.invokevirtual 173, 3) := by decide +kernel
theorem dX7_readsPart_32 : decode cX7_readsPart 32 = .ok (.putfield 163, 3) := by decide +kernel
theorem dX7_readsPart_35 : decode cX7_readsPart 35 = .ok (.aload_n 0, 1) := by decide +kernel
theorem dX7_readsPart_36 : decode cX7_readsPart 36 = .ok (.iconst 0, 1) := by decide +kernel
theorem dX7_readsPart_37 : decode cX7_readsPart 37 = .ok (.iconst 3, 1) := by decide +kernel
theorem dX7_readsPart_38 : decode cX7_readsPart 38 = .ok (.invokevirtual 170, 3) := by decide +kernel
theorem dX7_readsPart_41 : decode cX7_readsPart 41 = .ok (.istore_n 3, 1) := by decide +kernel
theorem dX7_readsPart_42 : decode cX7_readsPart 42 = .ok (.aload_n 0, 1) := by decide +kernel
theorem dX7_readsPart_43 : decode cX7_readsPart 43 = .ok (.bipush 64, 2) := by decide +kernel
theorem dX7_readsPart_45 : decode cX7_readsPart 45 = .ok (.invokevirtual 173, 3) := by decide +kernel
theorem dX7_readsPart_48 : decode cX7_readsPart 48 = .ok (.ifCond .eq 14, 3) := by decide +kernel
theorem dX7_readsPart_51 : decode cX7_readsPart 51 = .ok (.aload_n 0, 1) := by decide +kernel
theorem dX7_readsPart_52 : decode cX7_readsPart 52 = .ok (.iconst 0, 1) := by decide +kernel
theorem dX7_readsPart_53 : decode cX7_readsPart 53 = .ok (.sipush 9999, 3) := by decide +kernel
theorem dX7_readsPart_56 : decode cX7_readsPart 56 = .ok (.invokevirtual 170, 3) := by decide +kernel
theorem dX7_readsPart_59 : decode cX7_readsPart 59 = .ok (.goto 6, 3) := by decide +kernel
theorem dX7_readsPart_62 : decode cX7_readsPart 62 = .ok (.sipush 9999, 3) := by decide +kernel
theorem dX7_readsPart_65 : decode cX7_readsPart 65 = .ok (.istore 4, 2) := by decide +kernel
theorem dX7_readsPart_67 : decode cX7_readsPart 67 = .ok (.aload_n 0, 1) := by decide +kernel
theorem dX7_readsPart_68 : decode cX7_readsPart 68 = .ok (.bipush 33, 2) := by decide +kernel
theorem dX7_readsPart_70 : decode cX7_readsPart 70 = .ok (.invokevirtual 173, 3) := by decide +kernel
theorem dX7_readsPart_73 : decode cX7_readsPart 73 = .ok (.ifCond .eq 7, 3) := by decide +kernel
theorem dX7_readsPart_76 : decode cX7_readsPart 76 = .ok (.iconst 1, 1) := by decide +kernel
theorem dX7_readsPart_77 : decode cX7_readsPart 77 = .ok (.goto 4, 3) := by decide +kernel
theorem dX7_readsPart_80 : decode cX7_readsPart 80 = .ok (.iconst 0, 1) := by decide +kernel
theorem dX7_readsPart_81 : decode cX7_readsPart 81 = .ok (.istore 5, 2) := by decide +kernel
theorem dX7_readsPart_83 : decode cX7_readsPart 83 = .ok (.aload_n 0, 1) := by decide +kernel
theorem dX7_readsPart_84 : decode cX7_readsPart 84 = .ok (.getfield 163, 3) := by decide +kernel
theorem dX7_readsPart_87 : decode cX7_readsPart 87 = .ok (.ifCond .eq 83, 3) := by decide +kernel
theorem dX7_readsPart_90 : decode cX7_readsPart 90 = .ok (.aload_n 0, 1) := by decide +kernel
theorem dX7_readsPart_91 : decode cX7_readsPart 91 = .ok (.getfield 22, 3) := by decide +kernel
theorem dX7_readsPart_94 : decode cX7_readsPart 94 = .ok (.iconst 5, 1) := by decide +kernel
theorem dX7_readsPart_95 : decode cX7_readsPart 95 = .ok (.aload_n 0, 1) := by decide +kernel
theorem dX7_readsPart_96 : decode cX7_readsPart 96 = .ok (.getfield 176, 3) := by decide +kernel
theorem dX7_readsPart_99 : decode cX7_readsPart 99 = .ok (.imul, 1) := by decide +kernel
theorem dX7_readsPart_100 : decode cX7_readsPart 100 = .ok (.iload_n 2, 1) := by decide +kernel
theorem dX7_readsPart_101 : decode cX7_readsPart 101 = .ok (.iastore, 1) := by decide +kernel
theorem dX7_readsPart_102 : decode cX7_readsPart 102 = .ok (.aload_n 0, 1) := by decide +kernel
theorem dX7_readsPart_103 : decode cX7_readsPart 103 = .ok (.getfield 22, 3) := by decide +kernel
theorem dX7_readsPart_106 : decode cX7_readsPart 106 = .ok (.iconst 5, 1) := by decide +kernel
theorem dX7_readsPart_107 : decode cX7_readsPart 107 = .ok (.aload_n 0, 1) := by decide +kernel
theorem dX7_readsPart_108 : decode cX7_readsPart 108 = .ok (.getfield 176, 3) := by decide +kernel
theorem dX7_readsPart_111 : decode cX7_readsPart 111 = .ok (.imul, 1) := by decide +kernel
theorem dX7_readsPart_112 : decode cX7_readsPart 112 = .ok (.iconst 1, 1) := by decide +kernel
theorem dX7_readsPart_113 : decode cX7_readsPart 113 = .ok (.iadd, 1) := by decide +kernel
theorem dX7_readsPart_114 : decode cX7_readsPart 114 = .ok (.iload_n 3, 1) := by decide +kernel
theorem dX7_readsPart_115 : decode cX7_readsPart 115 = .ok (.iastore, 1) := by decide +kernel
theorem dX7_readsPart_116 : decode cX7_readsPart 116 = .ok (.aload_n 0, 1) := by decide +kernel
theorem dX7_readsPart_117 : decode cX7_readsPart 117 = .ok (.getfield 22, 3) := by decide +kernel
theorem dX7_readsPart_120 : decode cX7_readsPart 120 = .ok (.iconst 5, 1) := by decide +kernel
theorem dX7_readsPart_121 : decode cX7_readsPart 121 = .ok (.aload_n 0, 1) := by decide +kernel
theorem dX7_readsPart_122 : decode cX7_readsPart 122 = .ok (.getfield 176, 3) := by decide +kernel
theorem dX7_readsPart_125 : decode cX7_readsPart 125 = .ok (.imul, 1) := by decide +kernel
theorem dX7_readsPart_126 : decode cX7_readsPart 126 = .ok (.iconst 2, 1) := by decide +kernel
theorem dX7_readsPart_127 : decode cX7_readsPart 127 = .ok (.iadd, 1) := by decide +kernel
theorem dX7_readsPart_128 : decode cX7_readsPart 128 = .ok (.iload_n 1, 1) := by decide +kernel
theorem dX7_readsPart_129 : decode cX7_readsPart 129 = .ok (.iastore, 1) := by decide +kernel
theorem dX7_readsPart_130 : decode cX7_readsPart 130 = .ok (.aload_n 0, 1) := by decide +kernel
theorem dX7_readsPart_131 : decode cX7_readsPart 131 = .ok (.getfield 22, 3) := by decide +kernel
theorem dX7_readsPart_134 : decode cX7_readsPart 134 = .ok (.iconst 5, 1) := by decide +kernel
theorem dX7_readsPart_135 : decode cX7_readsPart 135 = .ok (.aload_n 0, 1) := by decide +kernel
theorem dX7_readsPart_136 : decode cX7_readsPart 136 = .ok (.getfield 176, 3) := by decide +kernel
theorem dX7_readsPart_139 : decode cX7_readsPart 139 = .ok (.imul, 1) := by decide +kernel
theorem dX7_readsPart_140 : decode cX7_readsPart 140 = .ok (.iconst 3, 1) := by decide +kernel
theorem dX7_readsPart_141 : decode cX7_readsPart 141 = .ok (.iadd, 1) := by decide +kernel
theorem dX7_readsPart_142 : decode cX7_readsPart 142 = .ok (.iload 4, 2) := by decide +kernel
theorem dX7_readsPart_144 : decode cX7_readsPart 144 = .ok (.iastore, 1) := by decide +kernel
theorem dX7_readsPart_145 : decode cX7_readsPart 145 = .ok (.aload_n 0, 1) := by decide +kernel
theorem dX7_readsPart_146 : decode cX7_readsPart 146 = .ok (.getfield 22, 3) := by decide +kernel
theorem dX7_readsPart_149 : decode cX7_readsPart 149 = .ok (.iconst 5, 1) := by decide +kernel
theorem dX7_readsPart_150 : decode cX7_readsPart 150 = .ok (.aload_n 0, 1) := by decide +kernel
theorem dX7_readsPart_151 : decode cX7_readsPart 151 = .ok (.getfield 176, 3) := by decide +kernel
theorem dX7_readsPart_154 : decode cX7_readsPart 154 = .ok (.imul, 1) := by decide +kernel
theorem dX7_readsPart_155 : decode cX7_readsPart 155 = .ok (.iconst 4, 1) := by decide +kernel
theorem dX7_readsPart_156 : decode cX7_readsPart 156 = .ok (.iadd, 1) := by decide +kernel
theorem dX7_readsPart_157 : decode cX7_readsPart 157 = .ok (.iload 5, 2) := by decide +kernel
theorem dX7_readsPart_159 : decode cX7_readsPart 159 = .ok (.iastore, 1) := by decide +kernel
theorem dX7_readsPart_160 : decode cX7_readsPart 160 = .ok (.aload_n 0, 1) := by decide +kernel
theorem dX7_readsPart_161 : decode cX7_readsPart 161 = .ok (.dup, 1) := by decide +kernel
theorem dX7_readsPart_162 : decode cX7_readsPart 162 = .ok (.getfield 176, 3) := by decide +kernel
theorem dX7_readsPart_165 : decode cX7_readsPart 165 = .ok (.iconst 1, 1) := by decide +kernel
theorem dX7_readsPart_166 : decode cX7_readsPart 166 = .ok (.iadd, 1) := by decide +kernel
theorem dX7_readsPart_167 : decode cX7_readsPart 167 = .ok (.putfield 176, 3) := by decide +kernel
theorem dX7_readsPart_170 : decode cX7_readsPart 170 = .ok (.return_, 1) := by decide +kernel
theorem dX7_readsAll_0 : decode cX7_readsAll 0 = .ok (.aload_n 0, 1) := by decide +kernel
theorem dX7_readsAll_1 : decode cX7_readsAll 1 = .ok (.iconst 0, 1) := by decide +kernel
theorem dX7_readsAll_2 : decode cX7_readsAll 2 = .ok (.putfield 160, 3) := by decide +kernel
theorem dX7_readsAll_5 : decode cX7_readsAll 5 = .ok (.aload_n 0, 1) := by decide +kernel
theorem dX7_readsAll_6 : decode cX7_readsAll 6 = .ok (.iconst 1, 1) := by decide +kernel
theorem dX7_readsAll_7 : decode cX7_readsAll 7 = .ok (.putfield 163, 3) := by decide +kernel
theorem dX7_readsAll_10 : decode cX7_readsAll 10 = .ok (.aload_n 0, 1) := by decide +kernel
theorem dX7_readsAll_11 : decode cX7_readsAll 11 = .ok (.iconst 0, 1) := by decide +kernel
theorem dX7_readsAll_12 : decode cX7_readsAll 12 = .ok (.putfield 176, 3) := by decide +kernel
theorem dX7_readsAll_15 : decode cX7_readsAll 15 = .ok (.aload_n 0, 1) := by decide +kernel
theorem dX7_readsAll_16 : decode cX7_readsAll 16 = .ok (.invokevirtual 179, 3) := by decide +kernel
theorem dX7_readsAll_19 : decode cX7_readsAll 19 = .ok (.aload_n 0, 1) := by decide +kernel
theorem dX7_readsAll_20 : decode cX7_readsAll 20 = .ok (.getfield 163, 3) := by decide +kernel
theorem dX7_readsAll_23 : decode cX7_readsAll 23 = .ok (.ifCond .eq 38, 3) := by decide +kernel
theorem dX7_readsAll_26 : decode cX7_readsAll 26 = .ok (.aload_n 0, 1) := by decide +kernel
theorem dX7_readsAll_27 : decode cX7_readsAll 27 = .ok (.getfield 160, 3) := by decide +kernel
theorem dX7_readsAll_30 : decode cX7_readsAll 30 = .ok (.aload_n 0, 1) := by decide +kernel
theorem dX7_readsAll_31 : decode cX7_readsAll 31 = .ok (.getfield 157, 3) := by decide +kernel
theorem dX7_readsAll_34 : decode cX7_readsAll 34 = .ok (.if_icmp .ge 27, 3) := by decide +kernel
theorem dX7_readsAll_37 : decode cX7_readsAll 37 = .ok (.aload_n 0, 1) := by decide +kernel
theorem dX7_readsAll_38 : decode cX7_readsAll 38 = .ok (.aload_n 0, 1) := by decide +kernel
theorem dX7_readsAll_39 : decode cX7_readsAll 39 = .ok (.bipush 59, 2) := by decide +kernel
theorem dX7_readsAll_41 : decode cX7_readsAll 41 = .ok (.invokevirtual 173, 3) := by decide +kernel
theorem dX7_readsAll_44 : decode cX7_readsAll 44 = .ok (.putfield 163, 3) := by decide +kernel
theorem dX7_readsAll_47 : decode cX7_readsAll 47 = .ok (.aload_n 0, 1) := by decide +kernel
theorem dX7_readsAll_48 : decode cX7_readsAll 48 = .ok (.getfield 163, 3) := by decide +kernel
theorem dX7_readsAll_51 : decode cX7_readsAll 51 = .ok (.ifCond .eq (-32), 3) := by decide +kernel
theorem dX7_readsAll_54 : decode cX7_readsAll 54 = .ok (.aload_n 0, 1) := by decide +kernel
theorem dX7_readsAll_55 : decode cX7_readsAll 55 = .ok (.invokevirtual 179, 3) := by decide +kernel
theorem dX7_readsAll_58 : decode cX7_readsAll 58 = .ok (.goto (-39), 3) := by decide +kernel
theorem dX7_readsAll_61 : decode cX7_readsAll 61 = .ok (.return_, 1) := by decide +kernel
theorem dX7_firstError_0 : decode cX7_firstError 0 = .ok (.aload_n 0, 1) := by decide +kernel
theorem dX7_firstError_1 : decode cX7_firstError 1 = .ok (.iconst 0, 1) := by decide +kernel
theorem dX7_firstError_2 : decode cX7_firstError 2 = .ok (.putfield 25, 3) := by decide +kernel
theorem dX7_firstError_5 : decode cX7_firstError 5 = .ok (.aload_n 0, 1) := by decide +kernel
theorem dX7_firstError_6 : decode cX7_firstError 6 = .ok (.invokevirtual 182, 3) := by decide +kernel
theorem dX7_firstError_9 : decode cX7_firstError 9 = .ok (.aload_n 0, 1) := by decide +kernel
theorem dX7_firstError_10 : decode cX7_firstError 10 = .ok (.getfield 160, 3) := by decide +kernel
theorem dX7_firstError_13 : decode cX7_firstError 13 = .ok (.ireturn, 1) := by decide +kernel
theorem dX7_addAll_0 : decode cX7_addAll 0 = .ok (.aload_n 0, 1) := by decide +kernel
theorem dX7_addAll_1 : decode cX7_addAll 1 = .ok (.iconst 0, 1) := by decide +kernel
theorem dX7_addAll_2 : decode cX7_addAll 2 = .ok (.putfield 25, 3) := by decide +kernel
theorem dX7_addAll_5 : decode cX7_addAll 5 = .ok (.aload_n 0, 1) := by decide +kernel
theorem dX7_addAll_6 : decode cX7_addAll 6 = .ok (.invokevirtual 182, 3) := by decide +kernel
theorem dX7_addAll_9 : decode cX7_addAll 9 = .ok (.aload_n 0, 1) := by decide +kernel
theorem dX7_addAll_10 : decode cX7_addAll 10 = .ok (.getfield 163, 3) := by decide +kernel
theorem dX7_addAll_13 : decode cX7_addAll 13 = .ok (.ifCond .ne 9, 3) := by decide +kernel
theorem dX7_addAll_16 : decode cX7_addAll 16 = .ok (.aload_n 0, 1) := by decide +kernel
theorem dX7_addAll_17 : decode cX7_addAll 17 = .ok (.iconst 1, 1) := by decide +kernel
theorem dX7_addAll_18 : decode cX7_addAll 18 = .ok (.invokevirtual 138, 3) := by decide +kernel
theorem dX7_addAll_21 : decode cX7_addAll 21 = .ok (.ireturn, 1) := by decide +kernel
theorem dX7_addAll_22 : decode cX7_addAll 22 = .ok (.aload_n 0, 1) := by decide +kernel
theorem dX7_addAll_23 : decode cX7_addAll 23 = .ok (.getfield 7, 3) := by decide +kernel
theorem dX7_addAll_26 : decode cX7_addAll 26 = .ok (.iconst 5, 1) := by decide +kernel
theorem dX7_addAll_27 : decode cX7_addAll 27 = .ok (.iaload, 1) := by decide +kernel
theorem dX7_addAll_28 : decode cX7_addAll 28 = .ok (.aload_n 0, 1) := by decide +kernel
theorem dX7_addAll_29 : decode cX7_addAll 29 = .ok (.getfield 176, 3) := by decide +kernel
theorem dX7_addAll_32 : decode cX7_addAll 32 = .ok (.iadd, 1) := by decide +kernel
theorem dX7_addAll_33 : decode cX7_addAll 33 = .ok (.bipush 10, 2) := by decide +kernel
theorem dX7_addAll_35 : decode cX7_addAll 35 = .ok (.if_icmp .le 9, 3) := by decide +kernel
theorem dX7_addAll_38 : decode cX7_addAll 38 = .ok (.aload_n 0, 1) := by decide +kernel
theorem dX7_addAll_39 : decode cX7_addAll 39 = .ok (.iconst 2, 1) := by decide +kernel
theorem dX7_addAll_40 : decode cX7_addAll 40 = .ok (.invokevirtual 138, 3) := by decide +kernel
theorem dX7_addAll_43 : decode cX7_addAll 43 = .ok (.ireturn, 1) := by decide +kernel
theorem dX7_addAll_44 : decode cX7_addAll 44 = .ok (.aload_n 0, 1) := by decide +kernel
theorem dX7_addAll_45 : decode cX7_addAll 45 = .ok (.invokevirtual 141, 3) := by decide +kernel
theorem dX7_addAll_48 : decode cX7_addAll 48 = .ok (.aload_n 0, 1) := by decide +kernel
theorem dX7_addAll_49 : decode cX7_addAll 49 = .ok (.iconst 0, 1) := by decide +kernel
theorem dX7_addAll_50 : decode cX7_addAll 50 = .ok (.putfield 157, 3) := by decide +kernel
theorem dX7_addAll_53 : decode cX7_addAll 53 = .ok (.iconst 0, 1) := by decide +kernel
theorem dX7_addAll_54 : decode cX7_addAll 54 = .ok (.istore_n 1, 1) := by decide +kernel
theorem dX7_addAll_55 : decode cX7_addAll 55 = .ok (.iload_n 1, 1) := by decide +kernel
theorem dX7_addAll_56 : decode cX7_addAll 56 = .ok (.iconst 5, 1) := by decide +kernel
theorem dX7_addAll_57 : decode cX7_addAll 57 = .ok (.aload_n 0, 1) := by decide +kernel
theorem dX7_addAll_58 : decode cX7_addAll 58 = .ok (.getfield 176, 3) := by decide +kernel
theorem dX7_addAll_61 : decode cX7_addAll 61 = .ok (.imul, 1) := by decide +kernel
theorem dX7_addAll_62 : decode cX7_addAll 62 = .ok (.if_icmp .ge 51, 3) := by decide +kernel
theorem dX7_addAll_65 : decode cX7_addAll 65 = .ok (.aload_n 0, 1) := by decide +kernel
theorem dX7_addAll_66 : decode cX7_addAll 66 = .ok (.aload_n 0, 1) := by decide +kernel
theorem dX7_addAll_67 : decode cX7_addAll 67 = .ok (.getfield 22, 3) := by decide +kernel
theorem dX7_addAll_70 : decode cX7_addAll 70 = .ok (.iload_n 1, 1) := by decide +kernel
theorem dX7_addAll_71 : decode cX7_addAll 71 = .ok (.iaload, 1) := by decide +kernel
theorem dX7_addAll_72 : decode cX7_addAll 72 = .ok (.aload_n 0, 1) := by decide +kernel
theorem dX7_addAll_73 : decode cX7_addAll 73 = .ok (.getfield 22, 3) := by decide +kernel
theorem dX7_addAll_76 : decode cX7_addAll 76 = .ok (.iload_n 1, 1) := by decide +kernel
theorem dX7_addAll_77 : decode cX7_addAll 77 = .ok (.iconst 1, 1) := by decide +kernel
theorem dX7_addAll_78 : decode cX7_addAll 78 = .ok (.iadd, 1) := by decide +kernel
theorem dX7_addAll_79 : decode cX7_addAll 79 = .ok (.iaload, 1) := by decide +kernel
theorem dX7_addAll_80 : decode cX7_addAll 80 = .ok (.aload_n 0, 1) := by decide +kernel
theorem dX7_addAll_81 : decode cX7_addAll 81 = .ok (.getfield 22, 3) := by decide +kernel
theorem dX7_addAll_84 : decode cX7_addAll 84 = .ok (.iload_n 1, 1) := by decide +kernel
theorem dX7_addAll_85 : decode cX7_addAll 85 = .ok (.iconst 2, 1) := by decide +kernel
theorem dX7_addAll_86 : decode cX7_addAll 86 = .ok (.iadd, 1) := by decide +kernel
theorem dX7_addAll_87 : decode cX7_addAll 87 = .ok (.iaload, 1) := by decide +kernel
theorem dX7_addAll_88 : decode cX7_addAll 88 = .ok (.aload_n 0, 1) := by decide +kernel
theorem dX7_addAll_89 : decode cX7_addAll 89 = .ok (.getfield 22, 3) := by decide +kernel
theorem dX7_addAll_92 : decode cX7_addAll 92 = .ok (.iload_n 1, 1) := by decide +kernel
theorem dX7_addAll_93 : decode cX7_addAll 93 = .ok (.iconst 3, 1) := by decide +kernel
theorem dX7_addAll_94 : decode cX7_addAll 94 = .ok (.iadd, 1) := by decide +kernel
theorem dX7_addAll_95 : decode cX7_addAll 95 = .ok (.iaload, 1) := by decide +kernel
theorem dX7_addAll_96 : decode cX7_addAll 96 = .ok (.aload_n 0, 1) := by decide +kernel
theorem dX7_addAll_97 : decode cX7_addAll 97 = .ok (.getfield 22, 3) := by decide +kernel
theorem dX7_addAll_100 : decode cX7_addAll 100 = .ok (.iload_n 1, 1) := by decide +kernel
theorem dX7_addAll_101 : decode cX7_addAll 101 = .ok (.iconst 4, 1) := by decide +kernel
theorem dX7_addAll_102 : decode cX7_addAll 102 = .ok (.iadd, 1) := by decide +kernel
theorem dX7_addAll_103 : decode cX7_addAll 103 = .ok (.iaload, 1) := by decide +kernel
theorem dX7_addAll_104 : decode cX7_addAll 104 = .ok (.invokevirtual 147, 3) := by decide +kernel
theorem dX7_addAll_107 : decode cX7_addAll 107 = .ok (.iinc 1 5, 3) := by decide +kernel
theorem dX7_addAll_110 : decode cX7_addAll 110 = .ok (.goto (-55), 3) := by decide +kernel
theorem dX7_addAll_113 : decode cX7_addAll 113 = .ok (.aload_n 0, 1) := by decide +kernel
theorem dX7_addAll_114 : decode cX7_addAll 114 = .ok (.getfield 7, 3) := by decide +kernel
theorem dX7_addAll_117 : decode cX7_addAll 117 = .ok (.iconst 5, 1) := by decide +kernel
theorem dX7_addAll_118 : decode cX7_addAll 118 = .ok (.iaload, 1) := by decide +kernel
theorem dX7_addAll_119 : decode cX7_addAll 119 = .ok (.ireturn, 1) := by decide +kernel
theorem dX7_undo_0 : decode cX7_undo 0 = .ok (.aload_n 0, 1) := by decide +kernel
theorem dX7_undo_1 : decode cX7_undo 1 = .ok (.iconst 0, 1) := by decide +kernel
theorem dX7_undo_2 : decode cX7_undo 2 = .ok (.putfield 25, 3) := by decide +kernel
theorem dX7_undo_5 : decode cX7_undo 5 = .ok (.aload_n 0, 1) := by decide +kernel
theorem dX7_undo_6 : decode cX7_undo 6 = .ok (.getfield 33, 3) := by decide +kernel
theorem dX7_undo_9 : decode cX7_undo 9 = .ok (.ifCond .ne 9, 3) := by decide +kernel
theorem dX7_undo_12 : decode cX7_undo 12 = .ok (.aload_n 0, 1) := by decide +kernel
theorem dX7_undo_13 : decode cX7_undo 13 = .ok (.iconst 1, 1) := by decide +kernel
theorem dX7_undo_14 : decode cX7_undo 14 = .ok (.invokevirtual 138, 3) := by decide +kernel
theorem dX7_undo_17 : decode cX7_undo 17 = .ok (.ireturn, 1) := by decide +kernel
theorem dX7_undo_18 : decode cX7_undo 18 = .ok (.aload_n 0, 1) := by decide +kernel
theorem dX7_undo_19 : decode cX7_undo 19 = .ok (.dup, 1) := by decide +kernel
theorem dX7_undo_20 : decode cX7_undo 20 = .ok (.getfield 33, 3) := by decide +kernel
theorem dX7_undo_23 : decode cX7_undo 23 = .ok (.iconst 1, 1) := by decide +kernel
theorem dX7_undo_24 : decode cX7_undo 24 = .ok (.isub, 1) := by decide +kernel
theorem dX7_undo_25 : decode cX7_undo 25 = .ok (.putfield 33, 3) := by decide +kernel
theorem dX7_undo_28 : decode cX7_undo 28 = .ok (.iconst 0, 1) := by decide +kernel
theorem dX7_undo_29 : decode cX7_undo 29 = .ok (.istore_n 1, 1) := by decide +kernel
theorem dX7_undo_30 : decode cX7_undo 30 = .ok (.iload_n 1, 1) := by decide +kernel
theorem dX7_undo_31 : decode cX7_undo 31 = .ok (.sipush 158, 3) := by decide +kernel
theorem dX7_undo_34 : decode cX7_undo 34 = .ok (.if_icmp .ge 30, 3) := by decide +kernel
theorem dX7_undo_37 : decode cX7_undo 37 = .ok (.aload_n 0, 1) := by decide +kernel
theorem dX7_undo_38 : decode cX7_undo 38 = .ok (.getfield 7, 3) := by decide +kernel
theorem dX7_undo_41 : decode cX7_undo 41 = .ok (.iload_n 1, 1) := by decide +kernel
theorem dX7_undo_42 : decode cX7_undo 42 = .ok (.aload_n 0, 1) := by decide +kernel
theorem dX7_undo_43 : decode cX7_undo 43 = .ok (.getfield 16, 3) := by decide +kernel
theorem dX7_undo_46 : decode cX7_undo 46 = .ok (.sipush 158, 3) := by decide +kernel
theorem dX7_undo_49 : decode cX7_undo 49 = .ok (.aload_n 0, 1) := by decide +kernel
theorem dX7_undo_50 : decode cX7_undo 50 = .ok (.getfield 33, 3) := by decide +kernel
theorem dX7_undo_53 : decode cX7_undo 53 = .ok (.imul, 1) := by decide +kernel
theorem dX7_undo_54 : decode cX7_undo 54 = .ok (.iload_n 1, 1) := by decide +kernel
theorem dX7_undo_55 : decode cX7_undo 55 = .ok (.iadd, 1) := by decide +kernel
theorem dX7_undo_56 : decode cX7_undo 56 = .ok (.iaload, 1) := by decide +kernel
theorem dX7_undo_57 : decode cX7_undo 57 = .ok (.iastore, 1) := by decide +kernel
theorem dX7_undo_58 : decode cX7_undo 58 = .ok (.iinc 1 1, 3) := by decide +kernel
theorem dX7_undo_61 : decode cX7_undo 61 = .ok (.goto (-31), 3) := by decide +kernel
theorem dX7_undo_64 : decode cX7_undo 64 = .ok (.aload_n 0, 1) := by decide +kernel
theorem dX7_undo_65 : decode cX7_undo 65 = .ok (.getfield 33, 3) := by decide +kernel
theorem dX7_undo_68 : decode cX7_undo 68 = .ok (.ireturn, 1) := by decide +kernel
theorem dX7_billetsWith_0 : decode cX7_billetsWith 0 = .ok (.iconst 0, 1) := by decide +kernel
theorem dX7_billetsWith_1 : decode cX7_billetsWith 1 = .ok (.istore_n 2, 1) := by decide +kernel
theorem dX7_billetsWith_2 : decode cX7_billetsWith 2 = .ok (.iconst 0, 1) := by decide +kernel
theorem dX7_billetsWith_3 : decode cX7_billetsWith 3 = .ok (.istore_n 3, 1) := by decide +kernel
theorem dX7_billetsWith_4 : decode cX7_billetsWith 4 = .ok (.iload_n 3, 1) := by decide +kernel
theorem dX7_billetsWith_5 : decode cX7_billetsWith 5 = .ok (.bipush 6, 2) := by decide +kernel
theorem dX7_billetsWith_7 : decode cX7_billetsWith 7 = .ok (.if_icmp .gt 40, 3) := by decide +kernel
theorem dX7_billetsWith_10 : decode cX7_billetsWith 10 = .ok (.iload_n 2, 1) := by decide +kernel
theorem dX7_billetsWith_11 : decode cX7_billetsWith 11 = .ok (.aload_n 0, 1) := by decide +kernel
theorem dX7_billetsWith_12 : decode cX7_billetsWith 12 = .ok (.iload_n 3, 1) := by decide +kernel
theorem dX7_billetsWith_13 : decode cX7_billetsWith 13 = .ok (.invokevirtual 64, 3) := by decide +kernel
theorem dX7_billetsWith_16 : decode cX7_billetsWith 16 = .ok (.iconst (-1), 1) := by decide +kernel
theorem dX7_billetsWith_17 : decode cX7_billetsWith 17 = .ok (.if_icmp .eq 21, 3) := by decide +kernel
theorem dX7_billetsWith_20 : decode cX7_billetsWith 20 = .ok (.aload_n 0, 1) := by decide +kernel
theorem dX7_billetsWith_21 : decode cX7_billetsWith 21 = .ok (.aload_n 0, 1) := by decide +kernel
theorem dX7_billetsWith_22 : decode cX7_billetsWith 22 = .ok (.iload_n 3, 1) := by decide +kernel
theorem dX7_billetsWith_23 : decode cX7_billetsWith 23 = .ok (.invokevirtual 64, 3) := by decide +kernel
theorem dX7_billetsWith_26 : decode cX7_billetsWith 26 = .ok (.iconst 2, 1) := by decide +kernel
theorem dX7_billetsWith_27 : decode cX7_billetsWith 27 = .ok (.invokevirtual 47, 3) := by decide +kernel
theorem dX7_billetsWith_30 : decode cX7_billetsWith 30 = .ok (.iload_n 1, 1) := by decide +kernel
theorem dX7_billetsWith_31 : decode cX7_billetsWith 31 = .ok (.if_icmp .ne 7, 3) := by decide +kernel
theorem dX7_billetsWith_34 : decode cX7_billetsWith 34 = .ok (.iconst 1, 1) := by decide +kernel
theorem dX7_billetsWith_35 : decode cX7_billetsWith 35 = .ok (.goto 4, 3) := by decide +kernel
theorem dX7_billetsWith_38 : decode cX7_billetsWith 38 = .ok (.iconst 0, 1) := by decide +kernel
theorem dX7_billetsWith_39 : decode cX7_billetsWith 39 = .ok (.iadd, 1) := by decide +kernel
theorem dX7_billetsWith_40 : decode cX7_billetsWith 40 = .ok (.istore_n 2, 1) := by decide +kernel
theorem dX7_billetsWith_41 : decode cX7_billetsWith 41 = .ok (.iinc 3 1, 3) := by decide +kernel
theorem dX7_billetsWith_44 : decode cX7_billetsWith 44 = .ok (.goto (-40), 3) := by decide +kernel
theorem dX7_billetsWith_47 : decode cX7_billetsWith 47 = .ok (.iload_n 2, 1) := by decide +kernel
theorem dX7_billetsWith_48 : decode cX7_billetsWith 48 = .ok (.ireturn, 1) := by decide +kernel
theorem dX7_lackedWith_0 : decode cX7_lackedWith 0 = .ok (.iconst 0, 1) := by decide +kernel
theorem dX7_lackedWith_1 : decode cX7_lackedWith 1 = .ok (.istore_n 2, 1) := by decide +kernel
theorem dX7_lackedWith_2 : decode cX7_lackedWith 2 = .ok (.iconst 0, 1) := by decide +kernel
theorem dX7_lackedWith_3 : decode cX7_lackedWith 3 = .ok (.istore_n 3, 1) := by decide +kernel
theorem dX7_lackedWith_4 : decode cX7_lackedWith 4 = .ok (.iload_n 3, 1) := by decide +kernel
theorem dX7_lackedWith_5 : decode cX7_lackedWith 5 = .ok (.aload_n 0, 1) := by decide +kernel
theorem dX7_lackedWith_6 : decode cX7_lackedWith 6 = .ok (.getfield 7, 3) := by decide +kernel
theorem dX7_lackedWith_9 : decode cX7_lackedWith 9 = .ok (.iconst 5, 1) := by decide +kernel
theorem dX7_lackedWith_10 : decode cX7_lackedWith 10 = .ok (.iaload, 1) := by decide +kernel
theorem dX7_lackedWith_11 : decode cX7_lackedWith 11 = .ok (.if_icmp .ge 31, 3) := by decide +kernel
theorem dX7_lackedWith_14 : decode cX7_lackedWith 14 = .ok (.iload_n 2, 1) := by decide +kernel
theorem dX7_lackedWith_15 : decode cX7_lackedWith 15 = .ok (.aload_n 0, 1) := by decide +kernel
theorem dX7_lackedWith_16 : decode cX7_lackedWith 16 = .ok (.iload_n 3, 1) := by decide +kernel
theorem dX7_lackedWith_17 : decode cX7_lackedWith 17 = .ok (.iconst 2, 1) := by decide +kernel
theorem dX7_lackedWith_18 : decode cX7_lackedWith 18 = .ok (.invokevirtual 47, 3) := by decide +kernel
theorem dX7_lackedWith_21 : decode cX7_lackedWith 21 = .ok (.iload_n 1, 1) := by decide +kernel
theorem dX7_lackedWith_22 : decode cX7_lackedWith 22 = .ok (.if_icmp .ne 11, 3) := by decide +kernel
theorem dX7_lackedWith_25 : decode cX7_lackedWith 25 = .ok (.aload_n 0, 1) := by decide +kernel
theorem dX7_lackedWith_26 : decode cX7_lackedWith 26 = .ok (.iload_n 3, 1) := by decide +kernel
theorem dX7_lackedWith_27 : decode cX7_lackedWith 27 = .ok (.invokevirtual 86, 3) := by decide +kernel
theorem dX7_lackedWith_30 : decode cX7_lackedWith 30 = .ok (.goto 4, 3) := by decide +kernel
theorem dX7_lackedWith_33 : decode cX7_lackedWith 33 = .ok (.iconst 0, 1) := by decide +kernel
theorem dX7_lackedWith_34 : decode cX7_lackedWith 34 = .ok (.iadd, 1) := by decide +kernel
theorem dX7_lackedWith_35 : decode cX7_lackedWith 35 = .ok (.istore_n 2, 1) := by decide +kernel
theorem dX7_lackedWith_36 : decode cX7_lackedWith 36 = .ok (.iinc 3 1, 3) := by decide +kernel
theorem dX7_lackedWith_39 : decode cX7_lackedWith 39 = .ok (.goto (-35), 3) := by decide +kernel
theorem dX7_lackedWith_42 : decode cX7_lackedWith 42 = .ok (.iload_n 2, 1) := by decide +kernel
theorem dX7_lackedWith_43 : decode cX7_lackedWith 43 = .ok (.ireturn, 1) := by decide +kernel
theorem dX7_tellsHeat_0 : decode cX7_tellsHeat 0 = .ok (.iload_n 2, 1) := by decide +kernel
theorem dX7_tellsHeat_1 : decode cX7_tellsHeat 1 = .ok (.tableswitch 57 3 6 #[31, 37, 44, 51], 31) := by decide +kernel
theorem dX7_tellsHeat_32 : decode cX7_tellsHeat 32 = .ok (.aload_n 0, 1) := by decide +kernel
theorem dX7_tellsHeat_33 : decode cX7_tellsHeat 33 = .ok (.iload_n 1, 1) := by decide +kernel
theorem dX7_tellsHeat_34 : decode cX7_tellsHeat 34 = .ok (.invokevirtual 185, 3) := by decide +kernel
theorem dX7_tellsHeat_37 : decode cX7_tellsHeat 37 = .ok (.ireturn, 1) := by decide +kernel
theorem dX7_tellsHeat_38 : decode cX7_tellsHeat 38 = .ok (.aload_n 0, 1) := by decide +kernel
theorem dX7_tellsHeat_39 : decode cX7_tellsHeat 39 = .ok (.iload_n 1, 1) := by decide +kernel
theorem dX7_tellsHeat_40 : decode cX7_tellsHeat 40 = .ok (.iconst 3, 1) := by decide +kernel
theorem dX7_tellsHeat_41 : decode cX7_tellsHeat 41 = .ok (.invokevirtual 89, 3) := by decide +kernel
theorem dX7_tellsHeat_44 : decode cX7_tellsHeat 44 = .ok (.ireturn, 1) := by decide +kernel
theorem dX7_tellsHeat_45 : decode cX7_tellsHeat 45 = .ok (.aload_n 0, 1) := by decide +kernel
theorem dX7_tellsHeat_46 : decode cX7_tellsHeat 46 = .ok (.iload_n 1, 1) := by decide +kernel
theorem dX7_tellsHeat_47 : decode cX7_tellsHeat 47 = .ok (.iconst 4, 1) := by decide +kernel
theorem dX7_tellsHeat_48 : decode cX7_tellsHeat 48 = .ok (.invokevirtual 89, 3) := by decide +kernel
theorem dX7_tellsHeat_51 : decode cX7_tellsHeat 51 = .ok (.ireturn, 1) := by decide +kernel
theorem dX7_tellsHeat_52 : decode cX7_tellsHeat 52 = .ok (.aload_n 0, 1) := by decide +kernel
theorem dX7_tellsHeat_53 : decode cX7_tellsHeat 53 = .ok (.iload_n 1, 1) := by decide +kernel
theorem dX7_tellsHeat_54 : decode cX7_tellsHeat 54 = .ok (.invokevirtual 188, 3) := by decide +kernel
theorem dX7_tellsHeat_57 : decode cX7_tellsHeat 57 = .ok (.ireturn, 1) := by decide +kernel
theorem dX7_tellsHeat_58 : decode cX7_tellsHeat 58 = .ok (.aload_n 0, 1) := by decide +kernel
theorem dX7_tellsHeat_59 : decode cX7_tellsHeat 59 = .ok (.iload_n 1, 1) := by decide +kernel
theorem dX7_tellsHeat_60 : decode cX7_tellsHeat 60 = .ok (.iload_n 2, 1) := by decide +kernel
theorem dX7_tellsHeat_61 : decode cX7_tellsHeat 61 = .ok (.invokevirtual 89, 3) := by decide +kernel
theorem dX7_tellsHeat_64 : decode cX7_tellsHeat 64 = .ok (.ireturn, 1) := by decide +kernel
theorem dX7_heat_0 : decode cX7_heat 0 = .ok (.aload_n 0, 1) := by decide +kernel
theorem dX7_heat_1 : decode cX7_heat 1 = .ok (.iconst 0, 1) := by decide +kernel
theorem dX7_heat_2 : decode cX7_heat 2 = .ok (.putfield 25, 3) := by decide +kernel
theorem dX7_heat_5 : decode cX7_heat 5 = .ok (.iload_n 1, 1) := by decide +kernel
theorem dX7_heat_6 : decode cX7_heat 6 = .ok (.invokestatic 135, 3) := by decide +kernel
theorem dX7_heat_9 : decode cX7_heat 9 = .ok (.ifCond .ne 9, 3) := by decide +kernel
theorem dX7_heat_12 : decode cX7_heat 12 = .ok (.aload_n 0, 1) := by decide +kernel
theorem dX7_heat_13 : decode cX7_heat 13 = .ok (.iconst 1, 1) := by decide +kernel
theorem dX7_heat_14 : decode cX7_heat 14 = .ok (.invokevirtual 138, 3) := by decide +kernel
theorem dX7_heat_17 : decode cX7_heat 17 = .ok (.ireturn, 1) := by decide +kernel
theorem dX7_heat_18 : decode cX7_heat 18 = .ok (.iload_n 2, 1) := by decide +kernel
theorem dX7_heat_19 : decode cX7_heat 19 = .ok (.iconst 0, 1) := by decide +kernel
theorem dX7_heat_20 : decode cX7_heat 20 = .ok (.bipush 6, 2) := by decide +kernel
theorem dX7_heat_22 : decode cX7_heat 22 = .ok (.invokestatic 29, 3) := by decide +kernel
theorem dX7_heat_25 : decode cX7_heat 25 = .ok (.ifCond .eq 12, 3) := by decide +kernel
theorem dX7_heat_28 : decode cX7_heat 28 = .ok (.aload_n 0, 1) := by decide +kernel
theorem dX7_heat_29 : decode cX7_heat 29 = .ok (.iload_n 1, 1) := by decide +kernel
theorem dX7_heat_30 : decode cX7_heat 30 = .ok (.iload_n 2, 1) := by decide +kernel
theorem dX7_heat_31 : decode cX7_heat 31 = .ok (.invokevirtual 191, 3) := by decide +kernel
theorem dX7_heat_34 : decode cX7_heat 34 = .ok (.goto 8, 3) := by decide +kernel
theorem dX7_heat_37 : decode cX7_heat 37 = .ok (.aload_n 0, 1) := by decide +kernel
theorem dX7_heat_38 : decode cX7_heat 38 = .ok (.iconst 2, 1) := by decide +kernel
theorem dX7_heat_39 : decode cX7_heat 39 = .ok (.invokevirtual 138, 3) := by decide +kernel
theorem dX7_heat_42 : decode cX7_heat 42 = .ok (.ireturn, 1) := by decide +kernel
theorem dX7_tellsDie_0 : decode cX7_tellsDie 0 = .ok (.iload_n 2, 1) := by decide +kernel
theorem dX7_tellsDie_1 : decode cX7_tellsDie 1 = .ok (.iconst 3, 1) := by decide +kernel
theorem dX7_tellsDie_2 : decode cX7_tellsDie 2 = .ok (.if_icmp .ne 23, 3) := by decide +kernel
theorem dX7_tellsDie_5 : decode cX7_tellsDie 5 = .ok (.aload_n 0, 1) := by decide +kernel
theorem dX7_tellsDie_6 : decode cX7_tellsDie 6 = .ok (.iload_n 1, 1) := by decide +kernel
theorem dX7_tellsDie_7 : decode cX7_tellsDie 7 = .ok (.invokevirtual 44, 3) := by decide +kernel
theorem dX7_tellsDie_10 : decode cX7_tellsDie 10 = .ok (.ifCond .eq 13, 3) := by decide +kernel
theorem dX7_tellsDie_13 : decode cX7_tellsDie 13 = .ok (.aload_n 0, 1) := by decide +kernel
theorem dX7_tellsDie_14 : decode cX7_tellsDie 14 = .ok (.getfield 7, 3) := by decide +kernel
theorem dX7_tellsDie_17 : decode cX7_tellsDie 17 = .ok (.bipush 14, 2) := by decide +kernel
theorem dX7_tellsDie_19 : decode cX7_tellsDie 19 = .ok (.iaload, 1) := by decide +kernel
theorem dX7_tellsDie_20 : decode cX7_tellsDie 20 = .ok (.goto 4, 3) := by decide +kernel
theorem dX7_tellsDie_23 : decode cX7_tellsDie 23 = .ok (.iconst 0, 1) := by decide +kernel
theorem dX7_tellsDie_24 : decode cX7_tellsDie 24 = .ok (.ireturn, 1) := by decide +kernel
theorem dX7_tellsDie_25 : decode cX7_tellsDie 25 = .ok (.aload_n 0, 1) := by decide +kernel
theorem dX7_tellsDie_26 : decode cX7_tellsDie 26 = .ok (.iload_n 1, 1) := by decide +kernel
theorem dX7_tellsDie_27 : decode cX7_tellsDie 27 = .ok (.iload_n 2, 1) := by decide +kernel
theorem dX7_tellsDie_28 : decode cX7_tellsDie 28 = .ok (.iconst 3, 1) := by decide +kernel
theorem dX7_tellsDie_29 : decode cX7_tellsDie 29 = .ok (.if_icmp .le 9, 3) := by decide +kernel
theorem dX7_tellsDie_32 : decode cX7_tellsDie 32 = .ok (.iload_n 2, 1) := by decide +kernel
theorem dX7_tellsDie_33 : decode cX7_tellsDie 33 = .ok (.iconst 1, 1) := by decide +kernel
theorem dX7_tellsDie_34 : decode cX7_tellsDie 34 = .ok (.isub, 1) := by decide +kernel
theorem dX7_tellsDie_35 : decode cX7_tellsDie 35 = .ok (.goto 4, 3) := by decide +kernel
theorem dX7_tellsDie_38 : decode cX7_tellsDie 38 = .ok (.iload_n 2, 1) := by decide +kernel
theorem dX7_tellsDie_39 : decode cX7_tellsDie 39 = .ok (.invokevirtual 36, 3) := by decide +kernel
theorem dX7_tellsDie_42 : decode cX7_tellsDie 42 = .ok (.ireturn, 1) := by decide +kernel
theorem dX7_dieOf_0 : decode cX7_dieOf 0 = .ok (.aload_n 0, 1) := by decide +kernel
theorem dX7_dieOf_1 : decode cX7_dieOf 1 = .ok (.iconst 0, 1) := by decide +kernel
theorem dX7_dieOf_2 : decode cX7_dieOf 2 = .ok (.putfield 25, 3) := by decide +kernel
theorem dX7_dieOf_5 : decode cX7_dieOf 5 = .ok (.iload_n 1, 1) := by decide +kernel
theorem dX7_dieOf_6 : decode cX7_dieOf 6 = .ok (.invokestatic 144, 3) := by decide +kernel
theorem dX7_dieOf_9 : decode cX7_dieOf 9 = .ok (.ifCond .ne 9, 3) := by decide +kernel
theorem dX7_dieOf_12 : decode cX7_dieOf 12 = .ok (.aload_n 0, 1) := by decide +kernel
theorem dX7_dieOf_13 : decode cX7_dieOf 13 = .ok (.iconst 1, 1) := by decide +kernel
theorem dX7_dieOf_14 : decode cX7_dieOf 14 = .ok (.invokevirtual 138, 3) := by decide +kernel
theorem dX7_dieOf_17 : decode cX7_dieOf 17 = .ok (.ireturn, 1) := by decide +kernel
theorem dX7_dieOf_18 : decode cX7_dieOf 18 = .ok (.iload_n 2, 1) := by decide +kernel
theorem dX7_dieOf_19 : decode cX7_dieOf 19 = .ok (.iconst 0, 1) := by decide +kernel
theorem dX7_dieOf_20 : decode cX7_dieOf 20 = .ok (.iconst 5, 1) := by decide +kernel
theorem dX7_dieOf_21 : decode cX7_dieOf 21 = .ok (.invokestatic 29, 3) := by decide +kernel
theorem dX7_dieOf_24 : decode cX7_dieOf 24 = .ok (.ifCond .eq 12, 3) := by decide +kernel
theorem dX7_dieOf_27 : decode cX7_dieOf 27 = .ok (.aload_n 0, 1) := by decide +kernel
theorem dX7_dieOf_28 : decode cX7_dieOf 28 = .ok (.iload_n 1, 1) := by decide +kernel
theorem dX7_dieOf_29 : decode cX7_dieOf 29 = .ok (.iload_n 2, 1) := by decide +kernel
theorem dX7_dieOf_30 : decode cX7_dieOf 30 = .ok (.invokevirtual 194, 3) := by decide +kernel
theorem dX7_dieOf_33 : decode cX7_dieOf 33 = .ok (.goto 8, 3) := by decide +kernel
theorem dX7_dieOf_36 : decode cX7_dieOf 36 = .ok (.aload_n 0, 1) := by decide +kernel
theorem dX7_dieOf_37 : decode cX7_dieOf 37 = .ok (.iconst 2, 1) := by decide +kernel
theorem dX7_dieOf_38 : decode cX7_dieOf 38 = .ok (.invokevirtual 138, 3) := by decide +kernel
theorem dX7_dieOf_41 : decode cX7_dieOf 41 = .ok (.ireturn, 1) := by decide +kernel
theorem dX7_reason_0 : decode cX7_reason 0 = .ok (.aload_n 0, 1) := by decide +kernel
theorem dX7_reason_1 : decode cX7_reason 1 = .ok (.iload_n 1, 1) := by decide +kernel
theorem dX7_reason_2 : decode cX7_reason 2 = .ok (.iconst 1, 1) := by decide +kernel
theorem dX7_reason_3 : decode cX7_reason 3 = .ok (.invokevirtual 47, 3) := by decide +kernel
theorem dX7_reason_6 : decode cX7_reason 6 = .ok (.istore_n 2, 1) := by decide +kernel
theorem dX7_reason_7 : decode cX7_reason 7 = .ok (.aload_n 0, 1) := by decide +kernel
theorem dX7_reason_8 : decode cX7_reason 8 = .ok (.bipush 6, 2) := by decide +kernel
theorem dX7_reason_10 : decode cX7_reason 10 = .ok (.invokevirtual 64, 3) := by decide +kernel
theorem dX7_reason_13 : decode cX7_reason 13 = .ok (.iload_n 1, 1) := by decide +kernel
theorem dX7_reason_14 : decode cX7_reason 14 = .ok (.if_icmp .ne 5, 3) := by decide +kernel
theorem dX7_reason_17 : decode cX7_reason 17 = .ok (.iconst 0, 1) := by decide +kernel
theorem dX7_reason_18 : decode cX7_reason 18 = .ok (.ireturn, 1) := by decide +kernel
theorem dX7_reason_19 : decode cX7_reason 19 = .ok (.aload_n 0, 1) := by decide +kernel
theorem dX7_reason_20 : decode cX7_reason 20 = .ok (.iload_n 2, 1) := by decide +kernel
theorem dX7_reason_21 : decode cX7_reason 21 = .ok (.invokevirtual 102, 3) := by decide +kernel
theorem dX7_reason_24 : decode cX7_reason 24 = .ok (.ifCond .ne 17, 3) := by decide +kernel
theorem dX7_reason_27 : decode cX7_reason 27 = .ok (.aload_n 0, 1) := by decide +kernel
theorem dX7_reason_28 : decode cX7_reason 28 = .ok (.iload_n 2, 1) := by decide +kernel
theorem dX7_reason_29 : decode cX7_reason 29 = .ok (.invokevirtual 44, 3) := by decide +kernel
theorem dX7_reason_32 : decode cX7_reason 32 = .ok (.ifCond .eq 7, 3) := by decide +kernel
theorem dX7_reason_35 : decode cX7_reason 35 = .ok (.iconst 1, 1) := by decide +kernel
theorem dX7_reason_36 : decode cX7_reason 36 = .ok (.goto 4, 3) := by decide +kernel
theorem dX7_reason_39 : decode cX7_reason 39 = .ok (.iconst 2, 1) := by decide +kernel
theorem dX7_reason_40 : decode cX7_reason 40 = .ok (.ireturn, 1) := by decide +kernel
theorem dX7_reason_41 : decode cX7_reason 41 = .ok (.aload_n 0, 1) := by decide +kernel
theorem dX7_reason_42 : decode cX7_reason 42 = .ok (.iload_n 1, 1) := by decide +kernel
theorem dX7_reason_43 : decode cX7_reason 43 = .ok (.iconst 0, 1) := by decide +kernel
theorem dX7_reason_44 : decode cX7_reason 44 = .ok (.iconst 5, 1) := by decide +kernel
theorem dX7_reason_45 : decode cX7_reason 45 = .ok (.invokevirtual 67, 3) := by decide +kernel
theorem dX7_reason_48 : decode cX7_reason 48 = .ok (.ifCond .ne 19, 3) := by decide +kernel
theorem dX7_reason_51 : decode cX7_reason 51 = .ok (.aload_n 0, 1) := by decide +kernel
theorem dX7_reason_52 : decode cX7_reason 52 = .ok (.aload_n 0, 1) := by decide +kernel
theorem dX7_reason_53 : decode cX7_reason 53 = .ok (.iload_n 1, 1) := by decide +kernel
theorem dX7_reason_54 : decode cX7_reason 54 = .ok (.iconst 2, 1) := by decide +kernel
theorem dX7_reason_55 : decode cX7_reason 55 = .ok (.invokevirtual 47, 3) := by decide +kernel
theorem dX7_reason_58 : decode cX7_reason 58 = .ok (.iconst 0, 1) := by decide +kernel
theorem dX7_reason_59 : decode cX7_reason 59 = .ok (.invokevirtual 89, 3) := by decide +kernel
theorem dX7_reason_62 : decode cX7_reason 62 = .ok (.ifCond .ne 5, 3) := by decide +kernel
theorem dX7_reason_65 : decode cX7_reason 65 = .ok (.iconst 3, 1) := by decide +kernel
theorem dX7_reason_66 : decode cX7_reason 66 = .ok (.ireturn, 1) := by decide +kernel
theorem dX7_reason_67 : decode cX7_reason 67 = .ok (.aload_n 0, 1) := by decide +kernel
theorem dX7_reason_68 : decode cX7_reason 68 = .ok (.iload_n 1, 1) := by decide +kernel
theorem dX7_reason_69 : decode cX7_reason 69 = .ok (.invokevirtual 111, 3) := by decide +kernel
theorem dX7_reason_72 : decode cX7_reason 72 = .ok (.iconst (-1), 1) := by decide +kernel
theorem dX7_reason_73 : decode cX7_reason 73 = .ok (.if_icmp .ne 5, 3) := by decide +kernel
theorem dX7_reason_76 : decode cX7_reason 76 = .ok (.iconst 4, 1) := by decide +kernel
theorem dX7_reason_77 : decode cX7_reason 77 = .ok (.ireturn, 1) := by decide +kernel
theorem dX7_reason_78 : decode cX7_reason 78 = .ok (.aload_n 0, 1) := by decide +kernel
theorem dX7_reason_79 : decode cX7_reason 79 = .ok (.bipush 6, 2) := by decide +kernel
theorem dX7_reason_81 : decode cX7_reason 81 = .ok (.invokevirtual 64, 3) := by decide +kernel
theorem dX7_reason_84 : decode cX7_reason 84 = .ok (.iconst (-1), 1) := by decide +kernel
theorem dX7_reason_85 : decode cX7_reason 85 = .ok (.if_icmp .eq 7, 3) := by decide +kernel
theorem dX7_reason_88 : decode cX7_reason 88 = .ok (.iconst 5, 1) := by decide +kernel
theorem dX7_reason_89 : decode cX7_reason 89 = .ok (.goto 5, 3) := by decide +kernel
theorem dX7_reason_92 : decode cX7_reason 92 = .ok (.bipush 6, 2) := by decide +kernel
theorem dX7_reason_94 : decode cX7_reason 94 = .ok (.ireturn, 1) := by decide +kernel
theorem dX7_tellsJob_0 : decode cX7_tellsJob 0 = .ok (.aload_n 0, 1) := by decide +kernel
theorem dX7_tellsJob_1 : decode cX7_tellsJob 1 = .ok (.iload_n 1, 1) := by decide +kernel
theorem dX7_tellsJob_2 : decode cX7_tellsJob 2 = .ok (.invokevirtual 83, 3) := by decide +kernel
theorem dX7_tellsJob_5 : decode cX7_tellsJob 5 = .ok (.istore_n 3, 1) := by decide +kernel
theorem dX7_tellsJob_6 : decode cX7_tellsJob 6 = .ok (.iload_n 3, 1) := by decide +kernel
theorem dX7_tellsJob_7 : decode cX7_tellsJob 7 = .ok (.iconst (-1), 1) := by decide +kernel
theorem dX7_tellsJob_8 : decode cX7_tellsJob 8 = .ok (.if_icmp .ne 5, 3) := by decide +kernel
theorem dX7_tellsJob_11 : decode cX7_tellsJob 11 = .ok (.iconst (-1), 1) := by decide +kernel
theorem dX7_tellsJob_12 : decode cX7_tellsJob 12 = .ok (.ireturn, 1) := by decide +kernel
theorem dX7_tellsJob_13 : decode cX7_tellsJob 13 = .ok (.iload_n 2, 1) := by decide +kernel
theorem dX7_tellsJob_14 : decode cX7_tellsJob 14 = .ok (.bipush 7, 2) := by decide +kernel
theorem dX7_tellsJob_16 : decode cX7_tellsJob 16 = .ok (.if_icmp .ne 11, 3) := by decide +kernel
theorem dX7_tellsJob_19 : decode cX7_tellsJob 19 = .ok (.aload_n 0, 1) := by decide +kernel
theorem dX7_tellsJob_20 : decode cX7_tellsJob 20 = .ok (.iload_n 3, 1) := by decide +kernel
theorem dX7_tellsJob_21 : decode cX7_tellsJob 21 = .ok (.invokevirtual 197, 3) := by decide +kernel
theorem dX7_tellsJob_24 : decode cX7_tellsJob 24 = .ok (.goto 9, 3) := by decide +kernel
theorem dX7_tellsJob_27 : decode cX7_tellsJob 27 = .ok (.aload_n 0, 1) := by decide +kernel
theorem dX7_tellsJob_28 : decode cX7_tellsJob 28 = .ok (.iload_n 3, 1) := by decide +kernel
theorem dX7_tellsJob_29 : decode cX7_tellsJob 29 = .ok (.iload_n 2, 1) := by decide +kernel
theorem dX7_tellsJob_30 : decode cX7_tellsJob 30 = .ok (.invokevirtual 47, 3) := by decide +kernel
theorem dX7_tellsJob_33 : decode cX7_tellsJob 33 = .ok (.ireturn, 1) := by decide +kernel
theorem dX7_jobOf_0 : decode cX7_jobOf 0 = .ok (.aload_n 0, 1) := by decide +kernel
theorem dX7_jobOf_1 : decode cX7_jobOf 1 = .ok (.iconst 0, 1) := by decide +kernel
theorem dX7_jobOf_2 : decode cX7_jobOf 2 = .ok (.putfield 25, 3) := by decide +kernel
theorem dX7_jobOf_5 : decode cX7_jobOf 5 = .ok (.iload_n 1, 1) := by decide +kernel
theorem dX7_jobOf_6 : decode cX7_jobOf 6 = .ok (.ifCond .lt 22, 3) := by decide +kernel
theorem dX7_jobOf_9 : decode cX7_jobOf 9 = .ok (.iload_n 2, 1) := by decide +kernel
theorem dX7_jobOf_10 : decode cX7_jobOf 10 = .ok (.iconst 0, 1) := by decide +kernel
theorem dX7_jobOf_11 : decode cX7_jobOf 11 = .ok (.bipush 7, 2) := by decide +kernel
theorem dX7_jobOf_13 : decode cX7_jobOf 13 = .ok (.invokestatic 29, 3) := by decide +kernel
theorem dX7_jobOf_16 : decode cX7_jobOf 16 = .ok (.ifCond .eq 12, 3) := by decide +kernel
theorem dX7_jobOf_19 : decode cX7_jobOf 19 = .ok (.aload_n 0, 1) := by decide +kernel
theorem dX7_jobOf_20 : decode cX7_jobOf 20 = .ok (.iload_n 1, 1) := by decide +kernel
theorem dX7_jobOf_21 : decode cX7_jobOf 21 = .ok (.iload_n 2, 1) := by decide +kernel
theorem dX7_jobOf_22 : decode cX7_jobOf 22 = .ok (.invokevirtual 200, 3) := by decide +kernel
theorem dX7_jobOf_25 : decode cX7_jobOf 25 = .ok (.goto 8, 3) := by decide +kernel
theorem dX7_jobOf_28 : decode cX7_jobOf 28 = .ok (.aload_n 0, 1) := by decide +kernel
theorem dX7_jobOf_29 : decode cX7_jobOf 29 = .ok (.iconst 1, 1) := by decide +kernel
theorem dX7_jobOf_30 : decode cX7_jobOf 30 = .ok (.invokevirtual 138, 3) := by decide +kernel
theorem dX7_jobOf_33 : decode cX7_jobOf 33 = .ok (.ireturn, 1) := by decide +kernel
theorem dX7_tellsBillet_0 : decode cX7_tellsBillet 0 = .ok (.aload_n 0, 1) := by decide +kernel
theorem dX7_tellsBillet_1 : decode cX7_tellsBillet 1 = .ok (.iload_n 1, 1) := by decide +kernel
theorem dX7_tellsBillet_2 : decode cX7_tellsBillet 2 = .ok (.iconst 0, 1) := by decide +kernel
theorem dX7_tellsBillet_3 : decode cX7_tellsBillet 3 = .ok (.invokevirtual 58, 3) := by decide +kernel
theorem dX7_tellsBillet_6 : decode cX7_tellsBillet 6 = .ok (.ifCond .ne 5, 3) := by decide +kernel
theorem dX7_tellsBillet_9 : decode cX7_tellsBillet 9 = .ok (.iconst (-1), 1) := by decide +kernel
theorem dX7_tellsBillet_10 : decode cX7_tellsBillet 10 = .ok (.ireturn, 1) := by decide +kernel
theorem dX7_tellsBillet_11 : decode cX7_tellsBillet 11 = .ok (.iload_n 2, 1) := by decide +kernel
theorem dX7_tellsBillet_12 : decode cX7_tellsBillet 12 = .ok (.ifCond .ne 14, 3) := by decide +kernel
theorem dX7_tellsBillet_15 : decode cX7_tellsBillet 15 = .ok (.aload_n 0, 1) := by decide +kernel
theorem dX7_tellsBillet_16 : decode cX7_tellsBillet 16 = .ok (.iload_n 1, 1) := by decide +kernel
theorem dX7_tellsBillet_17 : decode cX7_tellsBillet 17 = .ok (.iconst 0, 1) := by decide +kernel
theorem dX7_tellsBillet_18 : decode cX7_tellsBillet 18 = .ok (.invokevirtual 58, 3) := by decide +kernel
theorem dX7_tellsBillet_21 : decode cX7_tellsBillet 21 = .ok (.iconst 1, 1) := by decide +kernel
theorem dX7_tellsBillet_22 : decode cX7_tellsBillet 22 = .ok (.isub, 1) := by decide +kernel
theorem dX7_tellsBillet_23 : decode cX7_tellsBillet 23 = .ok (.goto 9, 3) := by decide +kernel
theorem dX7_tellsBillet_26 : decode cX7_tellsBillet 26 = .ok (.aload_n 0, 1) := by decide +kernel
theorem dX7_tellsBillet_27 : decode cX7_tellsBillet 27 = .ok (.iload_n 1, 1) := by decide +kernel
theorem dX7_tellsBillet_28 : decode cX7_tellsBillet 28 = .ok (.iload_n 2, 1) := by decide +kernel
theorem dX7_tellsBillet_29 : decode cX7_tellsBillet 29 = .ok (.invokevirtual 58, 3) := by decide +kernel
theorem dX7_tellsBillet_32 : decode cX7_tellsBillet 32 = .ok (.ireturn, 1) := by decide +kernel
theorem dX7_billet_0 : decode cX7_billet 0 = .ok (.aload_n 0, 1) := by decide +kernel
theorem dX7_billet_1 : decode cX7_billet 1 = .ok (.iconst 0, 1) := by decide +kernel
theorem dX7_billet_2 : decode cX7_billet 2 = .ok (.putfield 25, 3) := by decide +kernel
theorem dX7_billet_5 : decode cX7_billet 5 = .ok (.iload_n 1, 1) := by decide +kernel
theorem dX7_billet_6 : decode cX7_billet 6 = .ok (.iconst 0, 1) := by decide +kernel
theorem dX7_billet_7 : decode cX7_billet 7 = .ok (.bipush 6, 2) := by decide +kernel
theorem dX7_billet_9 : decode cX7_billet 9 = .ok (.invokestatic 29, 3) := by decide +kernel
theorem dX7_billet_12 : decode cX7_billet 12 = .ok (.ifCond .ne 9, 3) := by decide +kernel
theorem dX7_billet_15 : decode cX7_billet 15 = .ok (.aload_n 0, 1) := by decide +kernel
theorem dX7_billet_16 : decode cX7_billet 16 = .ok (.iconst 1, 1) := by decide +kernel
theorem dX7_billet_17 : decode cX7_billet 17 = .ok (.invokevirtual 138, 3) := by decide +kernel
theorem dX7_billet_20 : decode cX7_billet 20 = .ok (.ireturn, 1) := by decide +kernel
theorem dX7_billet_21 : decode cX7_billet 21 = .ok (.iload_n 2, 1) := by decide +kernel
theorem dX7_billet_22 : decode cX7_billet 22 = .ok (.iconst 0, 1) := by decide +kernel
theorem dX7_billet_23 : decode cX7_billet 23 = .ok (.iconst 3, 1) := by decide +kernel
theorem dX7_billet_24 : decode cX7_billet 24 = .ok (.invokestatic 29, 3) := by decide +kernel
theorem dX7_billet_27 : decode cX7_billet 27 = .ok (.ifCond .eq 12, 3) := by decide +kernel
theorem dX7_billet_30 : decode cX7_billet 30 = .ok (.aload_n 0, 1) := by decide +kernel
theorem dX7_billet_31 : decode cX7_billet 31 = .ok (.iload_n 1, 1) := by decide +kernel
theorem dX7_billet_32 : decode cX7_billet 32 = .ok (.iload_n 2, 1) := by decide +kernel
theorem dX7_billet_33 : decode cX7_billet 33 = .ok (.invokevirtual 203, 3) := by decide +kernel
theorem dX7_billet_36 : decode cX7_billet 36 = .ok (.goto 8, 3) := by decide +kernel
theorem dX7_billet_39 : decode cX7_billet 39 = .ok (.aload_n 0, 1) := by decide +kernel
theorem dX7_billet_40 : decode cX7_billet 40 = .ok (.iconst 2, 1) := by decide +kernel
theorem dX7_billet_41 : decode cX7_billet 41 = .ok (.invokevirtual 138, 3) := by decide +kernel
theorem dX7_billet_44 : decode cX7_billet 44 = .ok (.ireturn, 1) := by decide +kernel
theorem dX7_rushJobs_0 : decode cX7_rushJobs 0 = .ok (.iconst 0, 1) := by decide +kernel
theorem dX7_rushJobs_1 : decode cX7_rushJobs 1 = .ok (.istore_n 1, 1) := by decide +kernel
theorem dX7_rushJobs_2 : decode cX7_rushJobs 2 = .ok (.iconst 0, 1) := by decide +kernel
theorem dX7_rushJobs_3 : decode cX7_rushJobs 3 = .ok (.istore_n 2, 1) := by decide +kernel
theorem dX7_rushJobs_4 : decode cX7_rushJobs 4 = .ok (.iload_n 2, 1) := by decide +kernel
theorem dX7_rushJobs_5 : decode cX7_rushJobs 5 = .ok (.aload_n 0, 1) := by decide +kernel
theorem dX7_rushJobs_6 : decode cX7_rushJobs 6 = .ok (.getfield 7, 3) := by decide +kernel
theorem dX7_rushJobs_9 : decode cX7_rushJobs 9 = .ok (.iconst 5, 1) := by decide +kernel
theorem dX7_rushJobs_10 : decode cX7_rushJobs 10 = .ok (.iaload, 1) := by decide +kernel
theorem dX7_rushJobs_11 : decode cX7_rushJobs 11 = .ok (.if_icmp .ge 19, 3) := by decide +kernel
theorem dX7_rushJobs_14 : decode cX7_rushJobs 14 = .ok (.iload_n 1, 1) := by decide +kernel
theorem dX7_rushJobs_15 : decode cX7_rushJobs 15 = .ok (.aload_n 0, 1) := by decide +kernel
theorem dX7_rushJobs_16 : decode cX7_rushJobs 16 = .ok (.iload_n 2, 1) := by decide +kernel
theorem dX7_rushJobs_17 : decode cX7_rushJobs 17 = .ok (.bipush 6, 2) := by decide +kernel
theorem dX7_rushJobs_19 : decode cX7_rushJobs 19 = .ok (.invokevirtual 47, 3) := by decide +kernel
theorem dX7_rushJobs_22 : decode cX7_rushJobs 22 = .ok (.iadd, 1) := by decide +kernel
theorem dX7_rushJobs_23 : decode cX7_rushJobs 23 = .ok (.istore_n 1, 1) := by decide +kernel
theorem dX7_rushJobs_24 : decode cX7_rushJobs 24 = .ok (.iinc 2 1, 3) := by decide +kernel
theorem dX7_rushJobs_27 : decode cX7_rushJobs 27 = .ok (.goto (-23), 3) := by decide +kernel
theorem dX7_rushJobs_30 : decode cX7_rushJobs 30 = .ok (.iload_n 1, 1) := by decide +kernel
theorem dX7_rushJobs_31 : decode cX7_rushJobs 31 = .ok (.ireturn, 1) := by decide +kernel
theorem dX7_inFurnace_0 : decode cX7_inFurnace 0 = .ok (.iconst 0, 1) := by decide +kernel
theorem dX7_inFurnace_1 : decode cX7_inFurnace 1 = .ok (.istore_n 1, 1) := by decide +kernel
theorem dX7_inFurnace_2 : decode cX7_inFurnace 2 = .ok (.iconst 0, 1) := by decide +kernel
theorem dX7_inFurnace_3 : decode cX7_inFurnace 3 = .ok (.istore_n 2, 1) := by decide +kernel
theorem dX7_inFurnace_4 : decode cX7_inFurnace 4 = .ok (.iload_n 2, 1) := by decide +kernel
theorem dX7_inFurnace_5 : decode cX7_inFurnace 5 = .ok (.bipush 6, 2) := by decide +kernel
theorem dX7_inFurnace_7 : decode cX7_inFurnace 7 = .ok (.if_icmp .ge 26, 3) := by decide +kernel
theorem dX7_inFurnace_10 : decode cX7_inFurnace 10 = .ok (.iload_n 1, 1) := by decide +kernel
theorem dX7_inFurnace_11 : decode cX7_inFurnace 11 = .ok (.aload_n 0, 1) := by decide +kernel
theorem dX7_inFurnace_12 : decode cX7_inFurnace 12 = .ok (.iload_n 2, 1) := by decide +kernel
theorem dX7_inFurnace_13 : decode cX7_inFurnace 13 = .ok (.iconst 0, 1) := by decide +kernel
theorem dX7_inFurnace_14 : decode cX7_inFurnace 14 = .ok (.invokevirtual 58, 3) := by decide +kernel
theorem dX7_inFurnace_17 : decode cX7_inFurnace 17 = .ok (.ifCond .le 7, 3) := by decide +kernel
theorem dX7_inFurnace_20 : decode cX7_inFurnace 20 = .ok (.iconst 1, 1) := by decide +kernel
theorem dX7_inFurnace_21 : decode cX7_inFurnace 21 = .ok (.goto 4, 3) := by decide +kernel
theorem dX7_inFurnace_24 : decode cX7_inFurnace 24 = .ok (.iconst 0, 1) := by decide +kernel
theorem dX7_inFurnace_25 : decode cX7_inFurnace 25 = .ok (.iadd, 1) := by decide +kernel
theorem dX7_inFurnace_26 : decode cX7_inFurnace 26 = .ok (.istore_n 1, 1) := by decide +kernel
theorem dX7_inFurnace_27 : decode cX7_inFurnace 27 = .ok (.iinc 2 1, 3) := by decide +kernel
theorem dX7_inFurnace_30 : decode cX7_inFurnace 30 = .ok (.goto (-26), 3) := by decide +kernel
theorem dX7_inFurnace_33 : decode cX7_inFurnace 33 = .ok (.iload_n 1, 1) := by decide +kernel
theorem dX7_inFurnace_34 : decode cX7_inFurnace 34 = .ok (.ireturn, 1) := by decide +kernel
theorem dX7_counts_0 : decode cX7_counts 0 = .ok (.iload_n 1, 1) := by decide +kernel
theorem dX7_counts_1 : decode cX7_counts 1 = .ok (.tableswitch 102 0 11 #[63, 70, 77, 82, 102, 102, 102, 102, 102, 102, 87, 97], 63) := by decide +kernel
theorem dX7_counts_64 : decode cX7_counts 64 = .ok (.aload_n 0, 1) := by decide +kernel
theorem dX7_counts_65 : decode cX7_counts 65 = .ok (.getfield 7, 3) := by decide +kernel
theorem dX7_counts_68 : decode cX7_counts 68 = .ok (.iconst 4, 1) := by decide +kernel
theorem dX7_counts_69 : decode cX7_counts 69 = .ok (.iaload, 1) := by decide +kernel
theorem dX7_counts_70 : decode cX7_counts 70 = .ok (.ireturn, 1) := by decide +kernel
theorem dX7_counts_71 : decode cX7_counts 71 = .ok (.aload_n 0, 1) := by decide +kernel
theorem dX7_counts_72 : decode cX7_counts 72 = .ok (.getfield 7, 3) := by decide +kernel
theorem dX7_counts_75 : decode cX7_counts 75 = .ok (.iconst 5, 1) := by decide +kernel
theorem dX7_counts_76 : decode cX7_counts 76 = .ok (.iaload, 1) := by decide +kernel
theorem dX7_counts_77 : decode cX7_counts 77 = .ok (.ireturn, 1) := by decide +kernel
theorem dX7_counts_78 : decode cX7_counts 78 = .ok (.aload_n 0, 1) := by decide +kernel
theorem dX7_counts_79 : decode cX7_counts 79 = .ok (.invokevirtual 206, 3) := by decide +kernel
theorem dX7_counts_82 : decode cX7_counts 82 = .ok (.ireturn, 1) := by decide +kernel
theorem dX7_counts_83 : decode cX7_counts 83 = .ok (.aload_n 0, 1) := by decide +kernel
theorem dX7_counts_84 : decode cX7_counts 84 = .ok (.invokevirtual 209, 3) := by decide +kernel
theorem dX7_counts_87 : decode cX7_counts 87 = .ok (.ireturn, 1) := by decide +kernel
theorem dX7_counts_88 : decode cX7_counts 88 = .ok (.aload_n 0, 1) := by decide +kernel
theorem dX7_counts_89 : decode cX7_counts 89 = .ok (.getfield 7, 3) := by decide +kernel
theorem dX7_counts_92 : decode cX7_counts 92 = .ok (.bipush 13, 2) := by decide +kernel
theorem dX7_counts_94 : decode cX7_counts 94 = .ok (.iaload, 1) := by decide +kernel
theorem dX7_counts_95 : decode cX7_counts 95 = .ok (.iconst 1, 1) := by decide +kernel
theorem dX7_counts_96 : decode cX7_counts 96 = .ok (.isub, 1) := by decide +kernel
theorem dX7_counts_97 : decode cX7_counts 97 = .ok (.ireturn, 1) := by decide +kernel
theorem dX7_counts_98 : decode cX7_counts 98 = .ok (.aload_n 0, 1) := by decide +kernel
theorem dX7_counts_99 : decode cX7_counts 99 = .ok (.getfield 33, 3) := by decide +kernel
theorem dX7_counts_102 : decode cX7_counts 102 = .ok (.ireturn, 1) := by decide +kernel
theorem dX7_counts_103 : decode cX7_counts 103 = .ok (.aload_n 0, 1) := by decide +kernel
theorem dX7_counts_104 : decode cX7_counts 104 = .ok (.getfield 7, 3) := by decide +kernel
theorem dX7_counts_107 : decode cX7_counts 107 = .ok (.bipush 7, 2) := by decide +kernel
theorem dX7_counts_109 : decode cX7_counts 109 = .ok (.iload_n 1, 1) := by decide +kernel
theorem dX7_counts_110 : decode cX7_counts 110 = .ok (.iadd, 1) := by decide +kernel
theorem dX7_counts_111 : decode cX7_counts 111 = .ok (.iconst 4, 1) := by decide +kernel
theorem dX7_counts_112 : decode cX7_counts 112 = .ok (.isub, 1) := by decide +kernel
theorem dX7_counts_113 : decode cX7_counts 113 = .ok (.iaload, 1) := by decide +kernel
theorem dX7_counts_114 : decode cX7_counts 114 = .ok (.ireturn, 1) := by decide +kernel
theorem dX7_count_0 : decode cX7_count 0 = .ok (.aload_n 0, 1) := by decide +kernel
theorem dX7_count_1 : decode cX7_count 1 = .ok (.iconst 0, 1) := by decide +kernel
theorem dX7_count_2 : decode cX7_count 2 = .ok (.putfield 25, 3) := by decide +kernel
theorem dX7_count_5 : decode cX7_count 5 = .ok (.iload_n 1, 1) := by decide +kernel
theorem dX7_count_6 : decode cX7_count 6 = .ok (.iconst 0, 1) := by decide +kernel
theorem dX7_count_7 : decode cX7_count 7 = .ok (.bipush 11, 2) := by decide +kernel
theorem dX7_count_9 : decode cX7_count 9 = .ok (.invokestatic 29, 3) := by decide +kernel
theorem dX7_count_12 : decode cX7_count 12 = .ok (.ifCond .eq 11, 3) := by decide +kernel
theorem dX7_count_15 : decode cX7_count 15 = .ok (.aload_n 0, 1) := by decide +kernel
theorem dX7_count_16 : decode cX7_count 16 = .ok (.iload_n 1, 1) := by decide +kernel
theorem dX7_count_17 : decode cX7_count 17 = .ok (.invokevirtual 212, 3) := by decide +kernel
theorem dX7_count_20 : decode cX7_count 20 = .ok (.goto 8, 3) := by decide +kernel
theorem dX7_count_23 : decode cX7_count 23 = .ok (.aload_n 0, 1) := by decide +kernel
theorem dX7_count_24 : decode cX7_count 24 = .ok (.iconst 1, 1) := by decide +kernel
theorem dX7_count_25 : decode cX7_count 25 = .ok (.invokevirtual 138, 3) := by decide +kernel
theorem dX7_count_28 : decode cX7_count 28 = .ok (.ireturn, 1) := by decide +kernel
theorem dX7_setting_0 : decode cX7_setting 0 = .ok (.aload_n 0, 1) := by decide +kernel
theorem dX7_setting_1 : decode cX7_setting 1 = .ok (.iconst 0, 1) := by decide +kernel
theorem dX7_setting_2 : decode cX7_setting 2 = .ok (.putfield 25, 3) := by decide +kernel
theorem dX7_setting_5 : decode cX7_setting 5 = .ok (.iload_n 1, 1) := by decide +kernel
theorem dX7_setting_6 : decode cX7_setting 6 = .ok (.iconst 0, 1) := by decide +kernel
theorem dX7_setting_7 : decode cX7_setting 7 = .ok (.iconst 3, 1) := by decide +kernel
theorem dX7_setting_8 : decode cX7_setting 8 = .ok (.invokestatic 29, 3) := by decide +kernel
theorem dX7_setting_11 : decode cX7_setting 11 = .ok (.ifCond .eq 12, 3) := by decide +kernel
theorem dX7_setting_14 : decode cX7_setting 14 = .ok (.aload_n 0, 1) := by decide +kernel
theorem dX7_setting_15 : decode cX7_setting 15 = .ok (.getfield 7, 3) := by decide +kernel
theorem dX7_setting_18 : decode cX7_setting 18 = .ok (.iload_n 1, 1) := by decide +kernel
theorem dX7_setting_19 : decode cX7_setting 19 = .ok (.iaload, 1) := by decide +kernel
theorem dX7_setting_20 : decode cX7_setting 20 = .ok (.goto 8, 3) := by decide +kernel
theorem dX7_setting_23 : decode cX7_setting 23 = .ok (.aload_n 0, 1) := by decide +kernel
theorem dX7_setting_24 : decode cX7_setting 24 = .ok (.iconst 1, 1) := by decide +kernel
theorem dX7_setting_25 : decode cX7_setting 25 = .ok (.invokevirtual 138, 3) := by decide +kernel
theorem dX7_setting_28 : decode cX7_setting 28 = .ok (.ireturn, 1) := by decide +kernel
theorem dX7_passed_0 : decode cX7_passed 0 = .ok (.aload_n 0, 1) := by decide +kernel
theorem dX7_passed_1 : decode cX7_passed 1 = .ok (.invokevirtual 215, 3) := by decide +kernel
theorem dX7_passed_4 : decode cX7_passed 4 = .ok (.aload_n 0, 1) := by decide +kernel
theorem dX7_passed_5 : decode cX7_passed 5 = .ok (.getfield 7, 3) := by decide +kernel
theorem dX7_passed_8 : decode cX7_passed 8 = .ok (.bipush 8, 2) := by decide +kernel
theorem dX7_passed_10 : decode cX7_passed 10 = .ok (.iaload, 1) := by decide +kernel
theorem dX7_passed_11 : decode cX7_passed 11 = .ok (.istore_n 3, 1) := by decide +kernel
theorem dX7_passed_12 : decode cX7_passed 12 = .ok (.aload_n 0, 1) := by decide +kernel
theorem dX7_passed_13 : decode cX7_passed 13 = .ok (.getfield 7, 3) := by decide +kernel
theorem dX7_passed_16 : decode cX7_passed 16 = .ok (.bipush 12, 2) := by decide +kernel
theorem dX7_passed_18 : decode cX7_passed 18 = .ok (.iaload, 1) := by decide +kernel
theorem dX7_passed_19 : decode cX7_passed 19 = .ok (.istore 4, 2) := by decide +kernel
theorem dX7_passed_21 : decode cX7_passed 21 = .ok (.aload_n 0, 1) := by decide +kernel
theorem dX7_passed_22 : decode cX7_passed 22 = .ok (.getfield 7, 3) := by decide +kernel
theorem dX7_passed_25 : decode cX7_passed 25 = .ok (.bipush 9, 2) := by decide +kernel
theorem dX7_passed_27 : decode cX7_passed 27 = .ok (.iaload, 1) := by decide +kernel
theorem dX7_passed_28 : decode cX7_passed 28 = .ok (.istore 5, 2) := by decide +kernel
theorem dX7_passed_30 : decode cX7_passed 30 = .ok (.aload_n 0, 1) := by decide +kernel
theorem dX7_passed_31 : decode cX7_passed 31 = .ok (.iload_n 1, 1) := by decide +kernel
theorem dX7_passed_32 : decode cX7_passed 32 = .ok (.invokevirtual 154, 3) := by decide +kernel
theorem dX7_passed_35 : decode cX7_passed 35 = .ok (.istore 6, 2) := by decide +kernel
theorem dX7_passed_37 : decode cX7_passed 37 = .ok (.iload_n 2, 1) := by decide +kernel
theorem dX7_passed_38 : decode cX7_passed 38 = .ok (.ifCond .ne 8, 3) := by decide +kernel
theorem dX7_passed_41 : decode cX7_passed 41 = .ok (.iload 6, 2) := by decide +kernel
theorem dX7_passed_43 : decode cX7_passed 43 = .ok (.goto 62, 3) := by decide +kernel
theorem dX7_passed_46 : decode cX7_passed 46 = .ok (.iload_n 2, 1) := by decide +kernel
theorem dX7_passed_47 : decode cX7_passed 47 = .ok (.iconst 1, 1) := by decide +kernel
theorem dX7_passed_48 : decode cX7_passed 48 = .ok (.if_icmp .ne 15, 3) := by decide +kernel
theorem dX7_passed_51 : decode cX7_passed 51 = .ok (.aload_n 0, 1) := by decide +kernel
theorem dX7_passed_52 : decode cX7_passed 52 = .ok (.getfield 7, 3) := by decide +kernel
theorem dX7_passed_55 : decode cX7_passed 55 = .ok (.bipush 8, 2) := by decide +kernel
theorem dX7_passed_57 : decode cX7_passed 57 = .ok (.iaload, 1) := by decide +kernel
theorem dX7_passed_58 : decode cX7_passed 58 = .ok (.iload_n 3, 1) := by decide +kernel
theorem dX7_passed_59 : decode cX7_passed 59 = .ok (.isub, 1) := by decide +kernel
theorem dX7_passed_60 : decode cX7_passed 60 = .ok (.goto 45, 3) := by decide +kernel
theorem dX7_passed_63 : decode cX7_passed 63 = .ok (.iload_n 2, 1) := by decide +kernel
theorem dX7_passed_64 : decode cX7_passed 64 = .ok (.iconst 2, 1) := by decide +kernel
theorem dX7_passed_65 : decode cX7_passed 65 = .ok (.if_icmp .ne 12, 3) := by decide +kernel
theorem dX7_passed_68 : decode cX7_passed 68 = .ok (.aload_n 0, 1) := by decide +kernel
theorem dX7_passed_69 : decode cX7_passed 69 = .ok (.getfield 7, 3) := by decide +kernel
theorem dX7_passed_72 : decode cX7_passed 72 = .ok (.iconst 5, 1) := by decide +kernel
theorem dX7_passed_73 : decode cX7_passed 73 = .ok (.iaload, 1) := by decide +kernel
theorem dX7_passed_74 : decode cX7_passed 74 = .ok (.goto 31, 3) := by decide +kernel
theorem dX7_passed_77 : decode cX7_passed 77 = .ok (.iload_n 2, 1) := by decide +kernel
theorem dX7_passed_78 : decode cX7_passed 78 = .ok (.iconst 3, 1) := by decide +kernel
theorem dX7_passed_79 : decode cX7_passed 79 = .ok (.if_icmp .ne 16, 3) := by decide +kernel
theorem dX7_passed_82 : decode cX7_passed 82 = .ok (.aload_n 0, 1) := by decide +kernel
theorem dX7_passed_83 : decode cX7_passed 83 = .ok (.getfield 7, 3) := by decide +kernel
theorem dX7_passed_86 : decode cX7_passed 86 = .ok (.bipush 12, 2) := by decide +kernel
theorem dX7_passed_88 : decode cX7_passed 88 = .ok (.iaload, 1) := by decide +kernel
theorem dX7_passed_89 : decode cX7_passed 89 = .ok (.iload 4, 2) := by decide +kernel
theorem dX7_passed_91 : decode cX7_passed 91 = .ok (.isub, 1) := by decide +kernel
theorem dX7_passed_92 : decode cX7_passed 92 = .ok (.goto 13, 3) := by decide +kernel
theorem dX7_passed_95 : decode cX7_passed 95 = .ok (.aload_n 0, 1) := by decide +kernel
theorem dX7_passed_96 : decode cX7_passed 96 = .ok (.getfield 7, 3) := by decide +kernel
theorem dX7_passed_99 : decode cX7_passed 99 = .ok (.bipush 9, 2) := by decide +kernel
theorem dX7_passed_101 : decode cX7_passed 101 = .ok (.iaload, 1) := by decide +kernel
theorem dX7_passed_102 : decode cX7_passed 102 = .ok (.iload 5, 2) := by decide +kernel
theorem dX7_passed_104 : decode cX7_passed 104 = .ok (.isub, 1) := by decide +kernel
theorem dX7_passed_105 : decode cX7_passed 105 = .ok (.istore 7, 2) := by decide +kernel
theorem dX7_passed_107 : decode cX7_passed 107 = .ok (.aload_n 0, 1) := by decide +kernel
theorem dX7_passed_108 : decode cX7_passed 108 = .ok (.invokevirtual 218, 3) := by decide +kernel
theorem dX7_passed_111 : decode cX7_passed 111 = .ok (.iload 7, 2) := by decide +kernel
theorem dX7_passed_113 : decode cX7_passed 113 = .ok (.ireturn, 1) := by decide +kernel
theorem dX7_ifPassed_0 : decode cX7_ifPassed 0 = .ok (.aload_n 0, 1) := by decide +kernel
theorem dX7_ifPassed_1 : decode cX7_ifPassed 1 = .ok (.iconst 0, 1) := by decide +kernel
theorem dX7_ifPassed_2 : decode cX7_ifPassed 2 = .ok (.putfield 25, 3) := by decide +kernel
theorem dX7_ifPassed_5 : decode cX7_ifPassed 5 = .ok (.iload_n 1, 1) := by decide +kernel
theorem dX7_ifPassed_6 : decode cX7_ifPassed 6 = .ok (.iconst 1, 1) := by decide +kernel
theorem dX7_ifPassed_7 : decode cX7_ifPassed 7 = .ok (.sipush 240, 3) := by decide +kernel
theorem dX7_ifPassed_10 : decode cX7_ifPassed 10 = .ok (.invokestatic 29, 3) := by decide +kernel
theorem dX7_ifPassed_13 : decode cX7_ifPassed 13 = .ok (.ifCond .eq 21, 3) := by decide +kernel
theorem dX7_ifPassed_16 : decode cX7_ifPassed 16 = .ok (.iload_n 2, 1) := by decide +kernel
theorem dX7_ifPassed_17 : decode cX7_ifPassed 17 = .ok (.iconst 0, 1) := by decide +kernel
theorem dX7_ifPassed_18 : decode cX7_ifPassed 18 = .ok (.iconst 4, 1) := by decide +kernel
theorem dX7_ifPassed_19 : decode cX7_ifPassed 19 = .ok (.invokestatic 29, 3) := by decide +kernel
theorem dX7_ifPassed_22 : decode cX7_ifPassed 22 = .ok (.ifCond .eq 12, 3) := by decide +kernel
theorem dX7_ifPassed_25 : decode cX7_ifPassed 25 = .ok (.aload_n 0, 1) := by decide +kernel
theorem dX7_ifPassed_26 : decode cX7_ifPassed 26 = .ok (.iload_n 1, 1) := by decide +kernel
theorem dX7_ifPassed_27 : decode cX7_ifPassed 27 = .ok (.iload_n 2, 1) := by decide +kernel
theorem dX7_ifPassed_28 : decode cX7_ifPassed 28 = .ok (.invokevirtual 221, 3) := by decide +kernel
theorem dX7_ifPassed_31 : decode cX7_ifPassed 31 = .ok (.goto 8, 3) := by decide +kernel
theorem dX7_ifPassed_34 : decode cX7_ifPassed 34 = .ok (.aload_n 0, 1) := by decide +kernel
theorem dX7_ifPassed_35 : decode cX7_ifPassed 35 = .ok (.iconst 1, 1) := by decide +kernel
theorem dX7_ifPassed_36 : decode cX7_ifPassed 36 = .ok (.invokevirtual 138, 3) := by decide +kernel
theorem dX7_ifPassed_39 : decode cX7_ifPassed 39 = .ok (.ireturn, 1) := by decide +kernel
theorem dX7_untilGone_0 : decode cX7_untilGone 0 = .ok (.aload_n 0, 1) := by decide +kernel
theorem dX7_untilGone_1 : decode cX7_untilGone 1 = .ok (.invokevirtual 215, 3) := by decide +kernel
theorem dX7_untilGone_4 : decode cX7_untilGone 4 = .ok (.aload_n 0, 1) := by decide +kernel
theorem dX7_untilGone_5 : decode cX7_untilGone 5 = .ok (.iload_n 1, 1) := by decide +kernel
theorem dX7_untilGone_6 : decode cX7_untilGone 6 = .ok (.invokevirtual 61, 3) := by decide +kernel
theorem dX7_untilGone_9 : decode cX7_untilGone 9 = .ok (.istore_n 3, 1) := by decide +kernel
theorem dX7_untilGone_10 : decode cX7_untilGone 10 = .ok (.aload_n 0, 1) := by decide +kernel
theorem dX7_untilGone_11 : decode cX7_untilGone 11 = .ok (.getfield 7, 3) := by decide +kernel
theorem dX7_untilGone_14 : decode cX7_untilGone 14 = .ok (.bipush 60, 2) := by decide +kernel
theorem dX7_untilGone_16 : decode cX7_untilGone 16 = .ok (.bipush 7, 2) := by decide +kernel
theorem dX7_untilGone_18 : decode cX7_untilGone 18 = .ok (.iload_n 3, 1) := by decide +kernel
theorem dX7_untilGone_19 : decode cX7_untilGone 19 = .ok (.imul, 1) := by decide +kernel
theorem dX7_untilGone_20 : decode cX7_untilGone 20 = .ok (.iadd, 1) := by decide +kernel
theorem dX7_untilGone_21 : decode cX7_untilGone 21 = .ok (.bipush 6, 2) := by decide +kernel
theorem dX7_untilGone_23 : decode cX7_untilGone 23 = .ok (.iadd, 1) := by decide +kernel
theorem dX7_untilGone_24 : decode cX7_untilGone 24 = .ok (.iload_n 2, 1) := by decide +kernel
theorem dX7_untilGone_25 : decode cX7_untilGone 25 = .ok (.ifCond .eq 7, 3) := by decide +kernel
theorem dX7_untilGone_28 : decode cX7_untilGone 28 = .ok (.iconst 1, 1) := by decide +kernel
theorem dX7_untilGone_29 : decode cX7_untilGone 29 = .ok (.goto 18, 3) := by decide +kernel
theorem dX7_untilGone_32 : decode cX7_untilGone 32 = .ok (.aload_n 0, 1) := by decide +kernel
theorem dX7_untilGone_33 : decode cX7_untilGone 33 = .ok (.getfield 7, 3) := by decide +kernel
theorem dX7_untilGone_36 : decode cX7_untilGone 36 = .ok (.bipush 60, 2) := by decide +kernel
theorem dX7_untilGone_38 : decode cX7_untilGone 38 = .ok (.bipush 7, 2) := by decide +kernel
theorem dX7_untilGone_40 : decode cX7_untilGone 40 = .ok (.iload_n 3, 1) := by decide +kernel
theorem dX7_untilGone_41 : decode cX7_untilGone 41 = .ok (.imul, 1) := by decide +kernel
theorem dX7_untilGone_42 : decode cX7_untilGone 42 = .ok (.iadd, 1) := by decide +kernel
theorem dX7_untilGone_43 : decode cX7_untilGone 43 = .ok (.bipush 6, 2) := by decide +kernel
theorem dX7_untilGone_45 : decode cX7_untilGone 45 = .ok (.iadd, 1) := by decide +kernel
theorem dX7_untilGone_46 : decode cX7_untilGone 46 = .ok (.iaload, 1) := by decide +kernel
theorem dX7_untilGone_47 : decode cX7_untilGone 47 = .ok (.iastore, 1) := by decide +kernel
theorem dX7_untilGone_48 : decode cX7_untilGone 48 = .ok (.iconst 0, 1) := by decide +kernel
theorem dX7_untilGone_49 : decode cX7_untilGone 49 = .ok (.istore 4, 2) := by decide +kernel
theorem dX7_untilGone_51 : decode cX7_untilGone 51 = .ok (.iload 4, 2) := by decide +kernel
theorem dX7_untilGone_53 : decode cX7_untilGone 53 = .ok (.sipush 240, 3) := by decide +kernel
theorem dX7_untilGone_56 : decode cX7_untilGone 56 = .ok (.if_icmp .ge 22, 3) := by decide +kernel
theorem dX7_untilGone_59 : decode cX7_untilGone 59 = .ok (.aload_n 0, 1) := by decide +kernel
theorem dX7_untilGone_60 : decode cX7_untilGone 60 = .ok (.iload_n 1, 1) := by decide +kernel
theorem dX7_untilGone_61 : decode cX7_untilGone 61 = .ok (.invokevirtual 61, 3) := by decide +kernel
theorem dX7_untilGone_64 : decode cX7_untilGone 64 = .ok (.iconst (-1), 1) := by decide +kernel
theorem dX7_untilGone_65 : decode cX7_untilGone 65 = .ok (.if_icmp .eq 13, 3) := by decide +kernel
theorem dX7_untilGone_68 : decode cX7_untilGone 68 = .ok (.aload_n 0, 1) := by decide +kernel
theorem dX7_untilGone_69 : decode cX7_untilGone 69 = .ok (.invokevirtual 132, 3) := by decide +kernel
theorem dX7_untilGone_72 : decode cX7_untilGone 72 = .ok (.iinc 4 1, 3) := by decide +kernel
theorem dX7_untilGone_75 : decode cX7_untilGone 75 = .ok (.goto (-24), 3) := by decide +kernel
theorem dX7_untilGone_78 : decode cX7_untilGone 78 = .ok (.aload_n 0, 1) := by decide +kernel
theorem dX7_untilGone_79 : decode cX7_untilGone 79 = .ok (.iload_n 1, 1) := by decide +kernel
theorem dX7_untilGone_80 : decode cX7_untilGone 80 = .ok (.invokevirtual 61, 3) := by decide +kernel
theorem dX7_untilGone_83 : decode cX7_untilGone 83 = .ok (.iconst (-1), 1) := by decide +kernel
theorem dX7_untilGone_84 : decode cX7_untilGone 84 = .ok (.if_icmp .ne 7, 3) := by decide +kernel
theorem dX7_untilGone_87 : decode cX7_untilGone 87 = .ok (.iconst 1, 1) := by decide +kernel
theorem dX7_untilGone_88 : decode cX7_untilGone 88 = .ok (.goto 4, 3) := by decide +kernel
theorem dX7_untilGone_91 : decode cX7_untilGone 91 = .ok (.iconst 0, 1) := by decide +kernel
theorem dX7_untilGone_92 : decode cX7_untilGone 92 = .ok (.istore 5, 2) := by decide +kernel
theorem dX7_untilGone_94 : decode cX7_untilGone 94 = .ok (.aload_n 0, 1) := by decide +kernel
theorem dX7_untilGone_95 : decode cX7_untilGone 95 = .ok (.invokevirtual 218, 3) := by decide +kernel
theorem dX7_untilGone_98 : decode cX7_untilGone 98 = .ok (.iload 5, 2) := by decide +kernel
theorem dX7_untilGone_100 : decode cX7_untilGone 100 = .ok (.ifCond .eq 8, 3) := by decide +kernel
theorem dX7_untilGone_103 : decode cX7_untilGone 103 = .ok (.iload 4, 2) := by decide +kernel
theorem dX7_untilGone_105 : decode cX7_untilGone 105 = .ok (.goto 4, 3) := by decide +kernel
theorem dX7_untilGone_108 : decode cX7_untilGone 108 = .ok (.iconst (-1), 1) := by decide +kernel
theorem dX7_untilGone_109 : decode cX7_untilGone 109 = .ok (.ireturn, 1) := by decide +kernel
theorem dX7_doneIn_0 : decode cX7_doneIn 0 = .ok (.aload_n 0, 1) := by decide +kernel
theorem dX7_doneIn_1 : decode cX7_doneIn 1 = .ok (.iconst 0, 1) := by decide +kernel
theorem dX7_doneIn_2 : decode cX7_doneIn 2 = .ok (.putfield 25, 3) := by decide +kernel
theorem dX7_doneIn_5 : decode cX7_doneIn 5 = .ok (.aload_n 0, 1) := by decide +kernel
theorem dX7_doneIn_6 : decode cX7_doneIn 6 = .ok (.iload_n 1, 1) := by decide +kernel
theorem dX7_doneIn_7 : decode cX7_doneIn 7 = .ok (.invokevirtual 61, 3) := by decide +kernel
theorem dX7_doneIn_10 : decode cX7_doneIn 10 = .ok (.iconst (-1), 1) := by decide +kernel
theorem dX7_doneIn_11 : decode cX7_doneIn 11 = .ok (.if_icmp .eq 12, 3) := by decide +kernel
theorem dX7_doneIn_14 : decode cX7_doneIn 14 = .ok (.aload_n 0, 1) := by decide +kernel
theorem dX7_doneIn_15 : decode cX7_doneIn 15 = .ok (.iload_n 1, 1) := by decide +kernel
theorem dX7_doneIn_16 : decode cX7_doneIn 16 = .ok (.iconst 0, 1) := by decide +kernel
theorem dX7_doneIn_17 : decode cX7_doneIn 17 = .ok (.invokevirtual 224, 3) := by decide +kernel
theorem dX7_doneIn_20 : decode cX7_doneIn 20 = .ok (.goto 8, 3) := by decide +kernel
theorem dX7_doneIn_23 : decode cX7_doneIn 23 = .ok (.aload_n 0, 1) := by decide +kernel
theorem dX7_doneIn_24 : decode cX7_doneIn 24 = .ok (.iconst 1, 1) := by decide +kernel
theorem dX7_doneIn_25 : decode cX7_doneIn 25 = .ok (.invokevirtual 138, 3) := by decide +kernel
theorem dX7_doneIn_28 : decode cX7_doneIn 28 = .ok (.ireturn, 1) := by decide +kernel
theorem dX7_earlier_0 : decode cX7_earlier 0 = .ok (.aload_n 0, 1) := by decide +kernel
theorem dX7_earlier_1 : decode cX7_earlier 1 = .ok (.iload_n 1, 1) := by decide +kernel
theorem dX7_earlier_2 : decode cX7_earlier 2 = .ok (.iconst 0, 1) := by decide +kernel
theorem dX7_earlier_3 : decode cX7_earlier 3 = .ok (.invokevirtual 224, 3) := by decide +kernel
theorem dX7_earlier_6 : decode cX7_earlier 6 = .ok (.istore_n 2, 1) := by decide +kernel
theorem dX7_earlier_7 : decode cX7_earlier 7 = .ok (.aload_n 0, 1) := by decide +kernel
theorem dX7_earlier_8 : decode cX7_earlier 8 = .ok (.iload_n 1, 1) := by decide +kernel
theorem dX7_earlier_9 : decode cX7_earlier 9 = .ok (.iconst 1, 1) := by decide +kernel
theorem dX7_earlier_10 : decode cX7_earlier 10 = .ok (.invokevirtual 224, 3) := by decide +kernel
theorem dX7_earlier_13 : decode cX7_earlier 13 = .ok (.istore_n 3, 1) := by decide +kernel
theorem dX7_earlier_14 : decode cX7_earlier 14 = .ok (.iload_n 2, 1) := by decide +kernel
theorem dX7_earlier_15 : decode cX7_earlier 15 = .ok (.iconst (-1), 1) := by decide +kernel
theorem dX7_earlier_16 : decode cX7_earlier 16 = .ok (.if_icmp .eq 8, 3) := by decide +kernel
theorem dX7_earlier_19 : decode cX7_earlier 19 = .ok (.iload_n 3, 1) := by decide +kernel
theorem dX7_earlier_20 : decode cX7_earlier 20 = .ok (.iconst (-1), 1) := by decide +kernel
theorem dX7_earlier_21 : decode cX7_earlier 21 = .ok (.if_icmp .ne 27, 3) := by decide +kernel
theorem dX7_earlier_24 : decode cX7_earlier 24 = .ok (.iload_n 2, 1) := by decide +kernel
theorem dX7_earlier_25 : decode cX7_earlier 25 = .ok (.iload_n 3, 1) := by decide +kernel
theorem dX7_earlier_26 : decode cX7_earlier 26 = .ok (.if_icmp .ne 7, 3) := by decide +kernel
theorem dX7_earlier_29 : decode cX7_earlier 29 = .ok (.iconst 0, 1) := by decide +kernel
theorem dX7_earlier_30 : decode cX7_earlier 30 = .ok (.goto 17, 3) := by decide +kernel
theorem dX7_earlier_33 : decode cX7_earlier 33 = .ok (.iload_n 2, 1) := by decide +kernel
theorem dX7_earlier_34 : decode cX7_earlier 34 = .ok (.iconst (-1), 1) := by decide +kernel
theorem dX7_earlier_35 : decode cX7_earlier 35 = .ok (.if_icmp .ne 9, 3) := by decide +kernel
theorem dX7_earlier_38 : decode cX7_earlier 38 = .ok (.sipush 999, 3) := by decide +kernel
theorem dX7_earlier_41 : decode cX7_earlier 41 = .ok (.goto 6, 3) := by decide +kernel
theorem dX7_earlier_44 : decode cX7_earlier 44 = .ok (.sipush (-999), 3) := by decide +kernel
theorem dX7_earlier_47 : decode cX7_earlier 47 = .ok (.ireturn, 1) := by decide +kernel
theorem dX7_earlier_48 : decode cX7_earlier 48 = .ok (.iload_n 2, 1) := by decide +kernel
theorem dX7_earlier_49 : decode cX7_earlier 49 = .ok (.iload_n 3, 1) := by decide +kernel
theorem dX7_earlier_50 : decode cX7_earlier 50 = .ok (.isub, 1) := by decide +kernel
theorem dX7_earlier_51 : decode cX7_earlier 51 = .ok (.ireturn, 1) := by decide +kernel
theorem dX7_ifRush_0 : decode cX7_ifRush 0 = .ok (.aload_n 0, 1) := by decide +kernel
theorem dX7_ifRush_1 : decode cX7_ifRush 1 = .ok (.iconst 0, 1) := by decide +kernel
theorem dX7_ifRush_2 : decode cX7_ifRush 2 = .ok (.putfield 25, 3) := by decide +kernel
theorem dX7_ifRush_5 : decode cX7_ifRush 5 = .ok (.aload_n 0, 1) := by decide +kernel
theorem dX7_ifRush_6 : decode cX7_ifRush 6 = .ok (.iload_n 1, 1) := by decide +kernel
theorem dX7_ifRush_7 : decode cX7_ifRush 7 = .ok (.invokevirtual 61, 3) := by decide +kernel
theorem dX7_ifRush_10 : decode cX7_ifRush 10 = .ok (.iconst (-1), 1) := by decide +kernel
theorem dX7_ifRush_11 : decode cX7_ifRush 11 = .ok (.if_icmp .eq 11, 3) := by decide +kernel
theorem dX7_ifRush_14 : decode cX7_ifRush 14 = .ok (.aload_n 0, 1) := by decide +kernel
theorem dX7_ifRush_15 : decode cX7_ifRush 15 = .ok (.iload_n 1, 1) := by decide +kernel
theorem dX7_ifRush_16 : decode cX7_ifRush 16 = .ok (.invokevirtual 228, 3) := by decide +kernel
theorem dX7_ifRush_19 : decode cX7_ifRush 19 = .ok (.goto 8, 3) := by decide +kernel
theorem dX7_ifRush_22 : decode cX7_ifRush 22 = .ok (.aload_n 0, 1) := by decide +kernel
theorem dX7_ifRush_23 : decode cX7_ifRush 23 = .ok (.iconst 1, 1) := by decide +kernel
theorem dX7_ifRush_24 : decode cX7_ifRush 24 = .ok (.invokevirtual 138, 3) := by decide +kernel
theorem dX7_ifRush_27 : decode cX7_ifRush 27 = .ok (.ireturn, 1) := by decide +kernel
theorem dX7_reheatsFor_0 : decode cX7_reheatsFor 0 = .ok (.aload_n 0, 1) := by decide +kernel
theorem dX7_reheatsFor_1 : decode cX7_reheatsFor 1 = .ok (.getfield 7, 3) := by decide +kernel
theorem dX7_reheatsFor_4 : decode cX7_reheatsFor 4 = .ok (.iconst 2, 1) := by decide +kernel
theorem dX7_reheatsFor_5 : decode cX7_reheatsFor 5 = .ok (.iaload, 1) := by decide +kernel
theorem dX7_reheatsFor_6 : decode cX7_reheatsFor 6 = .ok (.istore_n 2, 1) := by decide +kernel
theorem dX7_reheatsFor_7 : decode cX7_reheatsFor 7 = .ok (.iconst (-1), 1) := by decide +kernel
theorem dX7_reheatsFor_8 : decode cX7_reheatsFor 8 = .ok (.istore_n 3, 1) := by decide +kernel
theorem dX7_reheatsFor_9 : decode cX7_reheatsFor 9 = .ok (.iconst 0, 1) := by decide +kernel
theorem dX7_reheatsFor_10 : decode cX7_reheatsFor 10 = .ok (.istore 4, 2) := by decide +kernel
theorem dX7_reheatsFor_12 : decode cX7_reheatsFor 12 = .ok (.iconst 0, 1) := by decide +kernel
theorem dX7_reheatsFor_13 : decode cX7_reheatsFor 13 = .ok (.istore 5, 2) := by decide +kernel
theorem dX7_reheatsFor_15 : decode cX7_reheatsFor 15 = .ok (.iconst 0, 1) := by decide +kernel
theorem dX7_reheatsFor_16 : decode cX7_reheatsFor 16 = .ok (.istore 6, 2) := by decide +kernel
theorem dX7_reheatsFor_18 : decode cX7_reheatsFor 18 = .ok (.iload 6, 2) := by decide +kernel
theorem dX7_reheatsFor_20 : decode cX7_reheatsFor 20 = .ok (.iconst 4, 1) := by decide +kernel
theorem dX7_reheatsFor_21 : decode cX7_reheatsFor 21 = .ok (.if_icmp .ge 70, 3) := by decide +kernel
theorem dX7_reheatsFor_24 : decode cX7_reheatsFor 24 = .ok (.aload_n 0, 1) := by decide +kernel
theorem dX7_reheatsFor_25 : decode cX7_reheatsFor 25 = .ok (.getfield 7, 3) := by decide +kernel
theorem dX7_reheatsFor_28 : decode cX7_reheatsFor 28 = .ok (.iconst 2, 1) := by decide +kernel
theorem dX7_reheatsFor_29 : decode cX7_reheatsFor 29 = .ok (.iload 6, 2) := by decide +kernel
theorem dX7_reheatsFor_31 : decode cX7_reheatsFor 31 = .ok (.iastore, 1) := by decide +kernel
theorem dX7_reheatsFor_32 : decode cX7_reheatsFor 32 = .ok (.aload_n 0, 1) := by decide +kernel
theorem dX7_reheatsFor_33 : decode cX7_reheatsFor 33 = .ok (.iload_n 1, 1) := by decide +kernel
theorem dX7_reheatsFor_34 : decode cX7_reheatsFor 34 = .ok (.iconst 0, 1) := by decide +kernel
theorem dX7_reheatsFor_35 : decode cX7_reheatsFor 35 = .ok (.invokevirtual 221, 3) := by decide +kernel
theorem dX7_reheatsFor_38 : decode cX7_reheatsFor 38 = .ok (.istore 7, 2) := by decide +kernel
theorem dX7_reheatsFor_40 : decode cX7_reheatsFor 40 = .ok (.aload_n 0, 1) := by decide +kernel
theorem dX7_reheatsFor_41 : decode cX7_reheatsFor 41 = .ok (.iload_n 1, 1) := by decide +kernel
theorem dX7_reheatsFor_42 : decode cX7_reheatsFor 42 = .ok (.iconst 1, 1) := by decide +kernel
theorem dX7_reheatsFor_43 : decode cX7_reheatsFor 43 = .ok (.invokevirtual 221, 3) := by decide +kernel
theorem dX7_reheatsFor_46 : decode cX7_reheatsFor 46 = .ok (.istore 8, 2) := by decide +kernel
theorem dX7_reheatsFor_48 : decode cX7_reheatsFor 48 = .ok (.iload_n 3, 1) := by decide +kernel
theorem dX7_reheatsFor_49 : decode cX7_reheatsFor 49 = .ok (.iconst (-1), 1) := by decide +kernel
theorem dX7_reheatsFor_50 : decode cX7_reheatsFor 50 = .ok (.if_icmp .eq 24, 3) := by decide +kernel
theorem dX7_reheatsFor_53 : decode cX7_reheatsFor 53 = .ok (.iload 7, 2) := by decide +kernel
theorem dX7_reheatsFor_55 : decode cX7_reheatsFor 55 = .ok (.iload 4, 2) := by decide +kernel
theorem dX7_reheatsFor_57 : decode cX7_reheatsFor 57 = .ok (.if_icmp .gt 17, 3) := by decide +kernel
theorem dX7_reheatsFor_60 : decode cX7_reheatsFor 60 = .ok (.iload 7, 2) := by decide +kernel
theorem dX7_reheatsFor_62 : decode cX7_reheatsFor 62 = .ok (.iload 4, 2) := by decide +kernel
theorem dX7_reheatsFor_64 : decode cX7_reheatsFor 64 = .ok (.if_icmp .ne 21, 3) := by decide +kernel
theorem dX7_reheatsFor_67 : decode cX7_reheatsFor 67 = .ok (.iload 8, 2) := by decide +kernel
theorem dX7_reheatsFor_69 : decode cX7_reheatsFor 69 = .ok (.iload 5, 2) := by decide +kernel
theorem dX7_reheatsFor_71 : decode cX7_reheatsFor 71 = .ok (.if_icmp .ge 14, 3) := by decide +kernel
theorem dX7_reheatsFor_74 : decode cX7_reheatsFor 74 = .ok (.iload 6, 2) := by decide +kernel
theorem dX7_reheatsFor_76 : decode cX7_reheatsFor 76 = .ok (.istore_n 3, 1) := by decide +kernel
theorem dX7_reheatsFor_77 : decode cX7_reheatsFor 77 = .ok (.iload 7, 2) := by decide +kernel
theorem dX7_reheatsFor_79 : decode cX7_reheatsFor 79 = .ok (.istore 4, 2) := by decide +kernel
theorem dX7_reheatsFor_81 : decode cX7_reheatsFor 81 = .ok (.iload 8, 2) := by decide +kernel
theorem dX7_reheatsFor_83 : decode cX7_reheatsFor 83 = .ok (.istore 5, 2) := by decide +kernel
theorem dX7_reheatsFor_85 : decode cX7_reheatsFor 85 = .ok (.iinc 6 1, 3) := by decide +kernel
theorem dX7_reheatsFor_88 : decode cX7_reheatsFor 88 = .ok (.goto (-70), 3) := by decide +kernel
theorem dX7_reheatsFor_91 : decode cX7_reheatsFor 91 = .ok (.aload_n 0, 1) := by decide +kernel
theorem dX7_reheatsFor_92 : decode cX7_reheatsFor 92 = .ok (.getfield 7, 3) := by decide +kernel
theorem dX7_reheatsFor_95 : decode cX7_reheatsFor 95 = .ok (.iconst 2, 1) := by decide +kernel
theorem dX7_reheatsFor_96 : decode cX7_reheatsFor 96 = .ok (.iload_n 2, 1) := by decide +kernel
theorem dX7_reheatsFor_97 : decode cX7_reheatsFor 97 = .ok (.iastore, 1) := by decide +kernel
theorem dX7_reheatsFor_98 : decode cX7_reheatsFor 98 = .ok (.iload_n 3, 1) := by decide +kernel
theorem dX7_reheatsFor_99 : decode cX7_reheatsFor 99 = .ok (.ireturn, 1) := by decide +kernel
theorem dX7_bestReheats_0 : decode cX7_bestReheats 0 = .ok (.aload_n 0, 1) := by decide +kernel
theorem dX7_bestReheats_1 : decode cX7_bestReheats 1 = .ok (.iconst 0, 1) := by decide +kernel
theorem dX7_bestReheats_2 : decode cX7_bestReheats 2 = .ok (.putfield 25, 3) := by decide +kernel
theorem dX7_bestReheats_5 : decode cX7_bestReheats 5 = .ok (.iload_n 1, 1) := by decide +kernel
theorem dX7_bestReheats_6 : decode cX7_bestReheats 6 = .ok (.iconst 1, 1) := by decide +kernel
theorem dX7_bestReheats_7 : decode cX7_bestReheats 7 = .ok (.bipush 120, 2) := by decide +kernel
theorem dX7_bestReheats_9 : decode cX7_bestReheats 9 = .ok (.invokestatic 29, 3) := by decide +kernel
theorem dX7_bestReheats_12 : decode cX7_bestReheats 12 = .ok (.ifCond .eq 11, 3) := by decide +kernel
theorem dX7_bestReheats_15 : decode cX7_bestReheats 15 = .ok (.aload_n 0, 1) := by decide +kernel
theorem dX7_bestReheats_16 : decode cX7_bestReheats 16 = .ok (.iload_n 1, 1) := by decide +kernel
theorem dX7_bestReheats_17 : decode cX7_bestReheats 17 = .ok (.invokevirtual 231, 3) := by decide +kernel
theorem dX7_bestReheats_20 : decode cX7_bestReheats 20 = .ok (.goto 8, 3) := by decide +kernel
theorem dX7_bestReheats_23 : decode cX7_bestReheats 23 = .ok (.aload_n 0, 1) := by decide +kernel
theorem dX7_bestReheats_24 : decode cX7_bestReheats 24 = .ok (.iconst 1, 1) := by decide +kernel
theorem dX7_bestReheats_25 : decode cX7_bestReheats 25 = .ok (.invokevirtual 138, 3) := by decide +kernel
theorem dX7_bestReheats_28 : decode cX7_bestReheats 28 = .ok (.ireturn, 1) := by decide +kernel
theorem dX7_saved_0 : decode cX7_saved 0 = .ok (.aload_n 0, 1) := by decide +kernel
theorem dX7_saved_1 : decode cX7_saved 1 = .ok (.iconst 0, 1) := by decide +kernel
theorem dX7_saved_2 : decode cX7_saved 2 = .ok (.putfield 25, 3) := by decide +kernel
theorem dX7_saved_5 : decode cX7_saved 5 = .ok (.aload_n 0, 1) := by decide +kernel
theorem dX7_saved_6 : decode cX7_saved 6 = .ok (.getfield 7, 3) := by decide +kernel
theorem dX7_saved_9 : decode cX7_saved 9 = .ok (.bipush 7, 2) := by decide +kernel
theorem dX7_saved_11 : decode cX7_saved 11 = .ok (.iaload, 1) := by decide +kernel
theorem dX7_saved_12 : decode cX7_saved 12 = .ok (.aload_n 0, 1) := by decide +kernel
theorem dX7_saved_13 : decode cX7_saved 13 = .ok (.getfield 7, 3) := by decide +kernel
theorem dX7_saved_16 : decode cX7_saved 16 = .ok (.bipush 8, 2) := by decide +kernel
theorem dX7_saved_18 : decode cX7_saved 18 = .ok (.iaload, 1) := by decide +kernel
theorem dX7_saved_19 : decode cX7_saved 19 = .ok (.iadd, 1) := by decide +kernel
theorem dX7_saved_20 : decode cX7_saved 20 = .ok (.istore_n 1, 1) := by decide +kernel
theorem dX7_saved_21 : decode cX7_saved 21 = .ok (.iload_n 1, 1) := by decide +kernel
theorem dX7_saved_22 : decode cX7_saved 22 = .ok (.ifCond .ne 7, 3) := by decide +kernel
theorem dX7_saved_25 : decode cX7_saved 25 = .ok (.dconst 1, 1) := by decide +kernel
theorem dX7_saved_26 : decode cX7_saved 26 = .ok (.goto 14, 3) := by decide +kernel
theorem dX7_saved_29 : decode cX7_saved 29 = .ok (.aload_n 0, 1) := by decide +kernel
theorem dX7_saved_30 : decode cX7_saved 30 = .ok (.getfield 7, 3) := by decide +kernel
theorem dX7_saved_33 : decode cX7_saved 33 = .ok (.bipush 7, 2) := by decide +kernel
theorem dX7_saved_35 : decode cX7_saved 35 = .ok (.iaload, 1) := by decide +kernel
theorem dX7_saved_36 : decode cX7_saved 36 = .ok (.i2d, 1) := by decide +kernel
theorem dX7_saved_37 : decode cX7_saved 37 = .ok (.iload_n 1, 1) := by decide +kernel
theorem dX7_saved_38 : decode cX7_saved 38 = .ok (.i2d, 1) := by decide +kernel
theorem dX7_saved_39 : decode cX7_saved 39 = .ok (.ddiv, 1) := by decide +kernel
theorem dX7_saved_40 : decode cX7_saved 40 = .ok (.dreturn, 1) := by decide +kernel
theorem dX7_hashes_0 : decode cX7_hashes 0 = .ok (.aload_n 0, 1) := by decide +kernel
theorem dX7_hashes_1 : decode cX7_hashes 1 = .ok (.ldc2_w 234, 3) := by decide +kernel
theorem dX7_hashes_4 : decode cX7_hashes 4 = .ok (.aload_n 0, 1) := by decide +kernel
theorem dX7_hashes_5 : decode cX7_hashes 5 = .ok (.getfield 236, 3) := by decide +kernel
theorem dX7_hashes_8 : decode cX7_hashes 8 = .ok (.lmul, 1) := by decide +kernel
theorem dX7_hashes_9 : decode cX7_hashes 9 = .ok (.lload_n 1, 1) := by decide +kernel
theorem dX7_hashes_10 : decode cX7_hashes 10 = .ok (.ladd, 1) := by decide +kernel
theorem dX7_hashes_11 : decode cX7_hashes 11 = .ok (.putfield 236, 3) := by decide +kernel
theorem dX7_hashes_14 : decode cX7_hashes 14 = .ok (.return_, 1) := by decide +kernel
theorem dX7_hashesShop_0 : decode cX7_hashesShop 0 = .ok (.iconst 0, 1) := by decide +kernel
theorem dX7_hashesShop_1 : decode cX7_hashesShop 1 = .ok (.istore_n 1, 1) := by decide +kernel
theorem dX7_hashesShop_2 : decode cX7_hashesShop 2 = .ok (.iload_n 1, 1) := by decide +kernel
theorem dX7_hashesShop_3 : decode cX7_hashesShop 3 = .ok (.iconst 4, 1) := by decide +kernel
theorem dX7_hashesShop_4 : decode cX7_hashesShop 4 = .ok (.if_icmp .ge 34, 3) := by decide +kernel
theorem dX7_hashesShop_7 : decode cX7_hashesShop 7 = .ok (.iconst 0, 1) := by decide +kernel
theorem dX7_hashesShop_8 : decode cX7_hashesShop 8 = .ok (.istore_n 2, 1) := by decide +kernel
theorem dX7_hashesShop_9 : decode cX7_hashesShop 9 = .ok (.iload_n 2, 1) := by decide +kernel
theorem dX7_hashesShop_10 : decode cX7_hashesShop 10 = .ok (.bipush 7, 2) := by decide +kernel
theorem dX7_hashesShop_12 : decode cX7_hashesShop 12 = .ok (.if_icmp .ge 20, 3) := by decide +kernel
theorem dX7_hashesShop_15 : decode cX7_hashesShop 15 = .ok (.aload_n 0, 1) := by decide +kernel
theorem dX7_hashesShop_16 : decode cX7_hashesShop 16 = .ok (.aload_n 0, 1) := by decide +kernel
theorem dX7_hashesShop_17 : decode cX7_hashesShop 17 = .ok (.iload_n 1, 1) := by decide +kernel
theorem dX7_hashesShop_18 : decode cX7_hashesShop 18 = .ok (.iload_n 2, 1) := by decide +kernel
theorem dX7_hashesShop_19 : decode cX7_hashesShop 19 = .ok (.invokevirtual 191, 3) := by decide +kernel
theorem dX7_hashesShop_22 : decode cX7_hashesShop 22 = .ok (.i2l, 1) := by decide +kernel
theorem dX7_hashesShop_23 : decode cX7_hashesShop 23 = .ok (.invokevirtual 240, 3) := by decide +kernel
theorem dX7_hashesShop_26 : decode cX7_hashesShop 26 = .ok (.iinc 2 1, 3) := by decide +kernel
theorem dX7_hashesShop_29 : decode cX7_hashesShop 29 = .ok (.goto (-20), 3) := by decide +kernel
theorem dX7_hashesShop_32 : decode cX7_hashesShop 32 = .ok (.iinc 1 1, 3) := by decide +kernel
theorem dX7_hashesShop_35 : decode cX7_hashesShop 35 = .ok (.goto (-33), 3) := by decide +kernel
theorem dX7_hashesShop_38 : decode cX7_hashesShop 38 = .ok (.iconst 0, 1) := by decide +kernel
theorem dX7_hashesShop_39 : decode cX7_hashesShop 39 = .ok (.istore_n 1, 1) := by decide +kernel
theorem dX7_hashesShop_40 : decode cX7_hashesShop 40 = .ok (.iload_n 1, 1) := by decide +kernel
theorem dX7_hashesShop_41 : decode cX7_hashesShop 41 = .ok (.iconst 5, 1) := by decide +kernel
theorem dX7_hashesShop_42 : decode cX7_hashesShop 42 = .ok (.if_icmp .ge 34, 3) := by decide +kernel
theorem dX7_hashesShop_45 : decode cX7_hashesShop 45 = .ok (.iconst 0, 1) := by decide +kernel
theorem dX7_hashesShop_46 : decode cX7_hashesShop 46 = .ok (.istore_n 2, 1) := by decide +kernel
theorem dX7_hashesShop_47 : decode cX7_hashesShop 47 = .ok (.iload_n 2, 1) := by decide +kernel
theorem dX7_hashesShop_48 : decode cX7_hashesShop 48 = .ok (.bipush 6, 2) := by decide +kernel
theorem dX7_hashesShop_50 : decode cX7_hashesShop 50 = .ok (.if_icmp .ge 20, 3) := by decide +kernel
theorem dX7_hashesShop_53 : decode cX7_hashesShop 53 = .ok (.aload_n 0, 1) := by decide +kernel
theorem dX7_hashesShop_54 : decode cX7_hashesShop 54 = .ok (.aload_n 0, 1) := by decide +kernel
theorem dX7_hashesShop_55 : decode cX7_hashesShop 55 = .ok (.iload_n 1, 1) := by decide +kernel
theorem dX7_hashesShop_56 : decode cX7_hashesShop 56 = .ok (.iload_n 2, 1) := by decide +kernel
theorem dX7_hashesShop_57 : decode cX7_hashesShop 57 = .ok (.invokevirtual 194, 3) := by decide +kernel
theorem dX7_hashesShop_60 : decode cX7_hashesShop 60 = .ok (.i2l, 1) := by decide +kernel
theorem dX7_hashesShop_61 : decode cX7_hashesShop 61 = .ok (.invokevirtual 240, 3) := by decide +kernel
theorem dX7_hashesShop_64 : decode cX7_hashesShop 64 = .ok (.iinc 2 1, 3) := by decide +kernel
theorem dX7_hashesShop_67 : decode cX7_hashesShop 67 = .ok (.goto (-20), 3) := by decide +kernel
theorem dX7_hashesShop_70 : decode cX7_hashesShop 70 = .ok (.iinc 1 1, 3) := by decide +kernel
theorem dX7_hashesShop_73 : decode cX7_hashesShop 73 = .ok (.goto (-33), 3) := by decide +kernel
theorem dX7_hashesShop_76 : decode cX7_hashesShop 76 = .ok (.iconst 0, 1) := by decide +kernel
theorem dX7_hashesShop_77 : decode cX7_hashesShop 77 = .ok (.istore_n 1, 1) := by decide +kernel
theorem dX7_hashesShop_78 : decode cX7_hashesShop 78 = .ok (.iload_n 1, 1) := by decide +kernel
theorem dX7_hashesShop_79 : decode cX7_hashesShop 79 = .ok (.bipush 6, 2) := by decide +kernel
theorem dX7_hashesShop_81 : decode cX7_hashesShop 81 = .ok (.if_icmp .gt 33, 3) := by decide +kernel
theorem dX7_hashesShop_84 : decode cX7_hashesShop 84 = .ok (.iconst 0, 1) := by decide +kernel
theorem dX7_hashesShop_85 : decode cX7_hashesShop 85 = .ok (.istore_n 2, 1) := by decide +kernel
theorem dX7_hashesShop_86 : decode cX7_hashesShop 86 = .ok (.iload_n 2, 1) := by decide +kernel
theorem dX7_hashesShop_87 : decode cX7_hashesShop 87 = .ok (.iconst 4, 1) := by decide +kernel
theorem dX7_hashesShop_88 : decode cX7_hashesShop 88 = .ok (.if_icmp .ge 20, 3) := by decide +kernel
theorem dX7_hashesShop_91 : decode cX7_hashesShop 91 = .ok (.aload_n 0, 1) := by decide +kernel
theorem dX7_hashesShop_92 : decode cX7_hashesShop 92 = .ok (.aload_n 0, 1) := by decide +kernel
theorem dX7_hashesShop_93 : decode cX7_hashesShop 93 = .ok (.iload_n 1, 1) := by decide +kernel
theorem dX7_hashesShop_94 : decode cX7_hashesShop 94 = .ok (.iload_n 2, 1) := by decide +kernel
theorem dX7_hashesShop_95 : decode cX7_hashesShop 95 = .ok (.invokevirtual 203, 3) := by decide +kernel
theorem dX7_hashesShop_98 : decode cX7_hashesShop 98 = .ok (.i2l, 1) := by decide +kernel
theorem dX7_hashesShop_99 : decode cX7_hashesShop 99 = .ok (.invokevirtual 240, 3) := by decide +kernel
theorem dX7_hashesShop_102 : decode cX7_hashesShop 102 = .ok (.iinc 2 1, 3) := by decide +kernel
theorem dX7_hashesShop_105 : decode cX7_hashesShop 105 = .ok (.goto (-19), 3) := by decide +kernel
theorem dX7_hashesShop_108 : decode cX7_hashesShop 108 = .ok (.iinc 1 1, 3) := by decide +kernel
theorem dX7_hashesShop_111 : decode cX7_hashesShop 111 = .ok (.goto (-33), 3) := by decide +kernel
theorem dX7_hashesShop_114 : decode cX7_hashesShop 114 = .ok (.return_, 1) := by decide +kernel
theorem dX7_digest_0 : decode cX7_digest 0 = .ok (.aload_n 0, 1) := by decide +kernel
theorem dX7_digest_1 : decode cX7_digest 1 = .ok (.ldc2_w 244, 3) := by decide +kernel
theorem dX7_digest_4 : decode cX7_digest 4 = .ok (.putfield 236, 3) := by decide +kernel
theorem dX7_digest_7 : decode cX7_digest 7 = .ok (.iconst 0, 1) := by decide +kernel
theorem dX7_digest_8 : decode cX7_digest 8 = .ok (.istore_n 1, 1) := by decide +kernel
theorem dX7_digest_9 : decode cX7_digest 9 = .ok (.iload_n 1, 1) := by decide +kernel
theorem dX7_digest_10 : decode cX7_digest 10 = .ok (.bipush 12, 2) := by decide +kernel
theorem dX7_digest_12 : decode cX7_digest 12 = .ok (.if_icmp .ge 19, 3) := by decide +kernel
theorem dX7_digest_15 : decode cX7_digest 15 = .ok (.aload_n 0, 1) := by decide +kernel
theorem dX7_digest_16 : decode cX7_digest 16 = .ok (.aload_n 0, 1) := by decide +kernel
theorem dX7_digest_17 : decode cX7_digest 17 = .ok (.iload_n 1, 1) := by decide +kernel
theorem dX7_digest_18 : decode cX7_digest 18 = .ok (.invokevirtual 212, 3) := by decide +kernel
theorem dX7_digest_21 : decode cX7_digest 21 = .ok (.i2l, 1) := by decide +kernel
theorem dX7_digest_22 : decode cX7_digest 22 = .ok (.invokevirtual 240, 3) := by decide +kernel
theorem dX7_digest_25 : decode cX7_digest 25 = .ok (.iinc 1 1, 3) := by decide +kernel
theorem dX7_digest_28 : decode cX7_digest 28 = .ok (.goto (-19), 3) := by decide +kernel
theorem dX7_digest_31 : decode cX7_digest 31 = .ok (.iconst 0, 1) := by decide +kernel
theorem dX7_digest_32 : decode cX7_digest 32 = .ok (.istore_n 1, 1) := by decide +kernel
theorem dX7_digest_33 : decode cX7_digest 33 = .ok (.iload_n 1, 1) := by decide +kernel
theorem dX7_digest_34 : decode cX7_digest 34 = .ok (.iconst 4, 1) := by decide +kernel
theorem dX7_digest_35 : decode cX7_digest 35 = .ok (.if_icmp .ge 20, 3) := by decide +kernel
theorem dX7_digest_38 : decode cX7_digest 38 = .ok (.aload_n 0, 1) := by decide +kernel
theorem dX7_digest_39 : decode cX7_digest 39 = .ok (.aload_n 0, 1) := by decide +kernel
theorem dX7_digest_40 : decode cX7_digest 40 = .ok (.getfield 7, 3) := by decide +kernel
theorem dX7_digest_43 : decode cX7_digest 43 = .ok (.iload_n 1, 1) := by decide +kernel
theorem dX7_digest_44 : decode cX7_digest 44 = .ok (.iaload, 1) := by decide +kernel
theorem dX7_digest_45 : decode cX7_digest 45 = .ok (.i2l, 1) := by decide +kernel
theorem dX7_digest_46 : decode cX7_digest 46 = .ok (.invokevirtual 240, 3) := by decide +kernel
theorem dX7_digest_49 : decode cX7_digest 49 = .ok (.iinc 1 1, 3) := by decide +kernel
theorem dX7_digest_52 : decode cX7_digest 52 = .ok (.goto (-19), 3) := by decide +kernel
theorem dX7_digest_55 : decode cX7_digest 55 = .ok (.aload_n 0, 1) := by decide +kernel
theorem dX7_digest_56 : decode cX7_digest 56 = .ok (.invokevirtual 246, 3) := by decide +kernel
theorem dX7_digest_59 : decode cX7_digest 59 = .ok (.iconst 0, 1) := by decide +kernel
theorem dX7_digest_60 : decode cX7_digest 60 = .ok (.istore_n 1, 1) := by decide +kernel
theorem dX7_digest_61 : decode cX7_digest 61 = .ok (.iload_n 1, 1) := by decide +kernel
theorem dX7_digest_62 : decode cX7_digest 62 = .ok (.aload_n 0, 1) := by decide +kernel
theorem dX7_digest_63 : decode cX7_digest 63 = .ok (.getfield 7, 3) := by decide +kernel
theorem dX7_digest_66 : decode cX7_digest 66 = .ok (.iconst 5, 1) := by decide +kernel
theorem dX7_digest_67 : decode cX7_digest 67 = .ok (.iaload, 1) := by decide +kernel
theorem dX7_digest_68 : decode cX7_digest 68 = .ok (.if_icmp .ge 66, 3) := by decide +kernel
theorem dX7_digest_71 : decode cX7_digest 71 = .ok (.iconst 0, 1) := by decide +kernel
theorem dX7_digest_72 : decode cX7_digest 72 = .ok (.istore_n 2, 1) := by decide +kernel
theorem dX7_digest_73 : decode cX7_digest 73 = .ok (.iload_n 2, 1) := by decide +kernel
theorem dX7_digest_74 : decode cX7_digest 74 = .ok (.bipush 8, 2) := by decide +kernel
theorem dX7_digest_76 : decode cX7_digest 76 = .ok (.if_icmp .ge 20, 3) := by decide +kernel
theorem dX7_digest_79 : decode cX7_digest 79 = .ok (.aload_n 0, 1) := by decide +kernel
theorem dX7_digest_80 : decode cX7_digest 80 = .ok (.aload_n 0, 1) := by decide +kernel
theorem dX7_digest_81 : decode cX7_digest 81 = .ok (.iload_n 1, 1) := by decide +kernel
theorem dX7_digest_82 : decode cX7_digest 82 = .ok (.iload_n 2, 1) := by decide +kernel
theorem dX7_digest_83 : decode cX7_digest 83 = .ok (.invokevirtual 200, 3) := by decide +kernel
theorem dX7_digest_86 : decode cX7_digest 86 = .ok (.i2l, 1) := by decide +kernel
theorem dX7_digest_87 : decode cX7_digest 87 = .ok (.invokevirtual 240, 3) := by decide +kernel
theorem dX7_digest_90 : decode cX7_digest 90 = .ok (.iinc 2 1, 3) := by decide +kernel
theorem dX7_digest_93 : decode cX7_digest 93 = .ok (.goto (-20), 3) := by decide +kernel
theorem dX7_digest_96 : decode cX7_digest 96 = .ok (.aload_n 0, 1) := by decide +kernel
theorem dX7_digest_97 : decode cX7_digest 97 = .ok (.aload_n 0, 1) := by decide +kernel
theorem dX7_digest_98 : decode cX7_digest 98 = .ok (.iload_n 1, 1) := by decide +kernel
theorem dX7_digest_99 : decode cX7_digest 99 = .ok (.invokevirtual 83, 3) := by decide +kernel
theorem dX7_digest_102 : decode cX7_digest 102 = .ok (.iconst 0, 1) := by decide +kernel
theorem dX7_digest_103 : decode cX7_digest 103 = .ok (.invokevirtual 47, 3) := by decide +kernel
theorem dX7_digest_106 : decode cX7_digest 106 = .ok (.istore_n 2, 1) := by decide +kernel
theorem dX7_digest_107 : decode cX7_digest 107 = .ok (.aload_n 0, 1) := by decide +kernel
theorem dX7_digest_108 : decode cX7_digest 108 = .ok (.aload_n 0, 1) := by decide +kernel
theorem dX7_digest_109 : decode cX7_digest 109 = .ok (.iload_n 2, 1) := by decide +kernel
theorem dX7_digest_110 : decode cX7_digest 110 = .ok (.iconst 0, 1) := by decide +kernel
theorem dX7_digest_111 : decode cX7_digest 111 = .ok (.invokevirtual 224, 3) := by decide +kernel
theorem dX7_digest_114 : decode cX7_digest 114 = .ok (.i2l, 1) := by decide +kernel
theorem dX7_digest_115 : decode cX7_digest 115 = .ok (.invokevirtual 240, 3) := by decide +kernel
theorem dX7_digest_118 : decode cX7_digest 118 = .ok (.aload_n 0, 1) := by decide +kernel
theorem dX7_digest_119 : decode cX7_digest 119 = .ok (.aload_n 0, 1) := by decide +kernel
theorem dX7_digest_120 : decode cX7_digest 120 = .ok (.iload_n 2, 1) := by decide +kernel
theorem dX7_digest_121 : decode cX7_digest 121 = .ok (.invokevirtual 228, 3) := by decide +kernel
theorem dX7_digest_124 : decode cX7_digest 124 = .ok (.i2l, 1) := by decide +kernel
theorem dX7_digest_125 : decode cX7_digest 125 = .ok (.invokevirtual 240, 3) := by decide +kernel
theorem dX7_digest_128 : decode cX7_digest 128 = .ok (.iinc 1 1, 3) := by decide +kernel
theorem dX7_digest_131 : decode cX7_digest 131 = .ok (.goto (-70), 3) := by decide +kernel
theorem dX7_digest_134 : decode cX7_digest 134 = .ok (.iconst 0, 1) := by decide +kernel
theorem dX7_digest_135 : decode cX7_digest 135 = .ok (.istore_n 1, 1) := by decide +kernel
theorem dX7_digest_136 : decode cX7_digest 136 = .ok (.iload_n 1, 1) := by decide +kernel
theorem dX7_digest_137 : decode cX7_digest 137 = .ok (.iconst 5, 1) := by decide +kernel
theorem dX7_digest_138 : decode cX7_digest 138 = .ok (.if_icmp .ge 21, 3) := by decide +kernel
theorem dX7_digest_141 : decode cX7_digest 141 = .ok (.aload_n 0, 1) := by decide +kernel
theorem dX7_digest_142 : decode cX7_digest 142 = .ok (.aload_n 0, 1) := by decide +kernel
theorem dX7_digest_143 : decode cX7_digest 143 = .ok (.bipush 30, 2) := by decide +kernel
theorem dX7_digest_145 : decode cX7_digest 145 = .ok (.iload_n 1, 1) := by decide +kernel
theorem dX7_digest_146 : decode cX7_digest 146 = .ok (.invokevirtual 221, 3) := by decide +kernel
theorem dX7_digest_149 : decode cX7_digest 149 = .ok (.i2l, 1) := by decide +kernel
theorem dX7_digest_150 : decode cX7_digest 150 = .ok (.invokevirtual 240, 3) := by decide +kernel
theorem dX7_digest_153 : decode cX7_digest 153 = .ok (.iinc 1 1, 3) := by decide +kernel
theorem dX7_digest_156 : decode cX7_digest 156 = .ok (.goto (-20), 3) := by decide +kernel
theorem dX7_digest_159 : decode cX7_digest 159 = .ok (.aload_n 0, 1) := by decide +kernel
theorem dX7_digest_160 : decode cX7_digest 160 = .ok (.aload_n 0, 1) := by decide +kernel
theorem dX7_digest_161 : decode cX7_digest 161 = .ok (.bipush 40, 2) := by decide +kernel
theorem dX7_digest_163 : decode cX7_digest 163 = .ok (.invokevirtual 231, 3) := by decide +kernel
theorem dX7_digest_166 : decode cX7_digest 166 = .ok (.i2l, 1) := by decide +kernel
theorem dX7_digest_167 : decode cX7_digest 167 = .ok (.invokevirtual 240, 3) := by decide +kernel
theorem dX7_digest_170 : decode cX7_digest 170 = .ok (.aload_n 0, 1) := by decide +kernel
theorem dX7_digest_171 : decode cX7_digest 171 = .ok (.aload_n 0, 1) := by decide +kernel
theorem dX7_digest_172 : decode cX7_digest 172 = .ok (.invokevirtual 249, 3) := by decide +kernel
theorem dX7_digest_175 : decode cX7_digest 175 = .ok (.invokestatic 252, 3) := by decide +kernel
theorem dX7_digest_178 : decode cX7_digest 178 = .ok (.invokevirtual 240, 3) := by decide +kernel
theorem dX7_digest_181 : decode cX7_digest 181 = .ok (.aload_n 0, 1) := by decide +kernel
theorem dX7_digest_182 : decode cX7_digest 182 = .ok (.aload_n 0, 1) := by decide +kernel
theorem dX7_digest_183 : decode cX7_digest 183 = .ok (.getfield 157, 3) := by decide +kernel
theorem dX7_digest_186 : decode cX7_digest 186 = .ok (.i2l, 1) := by decide +kernel
theorem dX7_digest_187 : decode cX7_digest 187 = .ok (.invokevirtual 240, 3) := by decide +kernel
theorem dX7_digest_190 : decode cX7_digest 190 = .ok (.iconst 0, 1) := by decide +kernel
theorem dX7_digest_191 : decode cX7_digest 191 = .ok (.istore_n 1, 1) := by decide +kernel
theorem dX7_digest_192 : decode cX7_digest 192 = .ok (.iload_n 1, 1) := by decide +kernel
theorem dX7_digest_193 : decode cX7_digest 193 = .ok (.aload_n 0, 1) := by decide +kernel
theorem dX7_digest_194 : decode cX7_digest 194 = .ok (.getfield 157, 3) := by decide +kernel
theorem dX7_digest_197 : decode cX7_digest 197 = .ok (.if_icmp .ge 20, 3) := by decide +kernel
theorem dX7_digest_200 : decode cX7_digest 200 = .ok (.aload_n 0, 1) := by decide +kernel
theorem dX7_digest_201 : decode cX7_digest 201 = .ok (.aload_n 0, 1) := by decide +kernel
theorem dX7_digest_202 : decode cX7_digest 202 = .ok (.getfield 19, 3) := by decide +kernel
theorem dX7_digest_205 : decode cX7_digest 205 = .ok (.iload_n 1, 1) := by decide +kernel
theorem dX7_digest_206 : decode cX7_digest 206 = .ok (.iaload, 1) := by decide +kernel
theorem dX7_digest_207 : decode cX7_digest 207 = .ok (.i2l, 1) := by decide +kernel
theorem dX7_digest_208 : decode cX7_digest 208 = .ok (.invokevirtual 240, 3) := by decide +kernel
theorem dX7_digest_211 : decode cX7_digest 211 = .ok (.iinc 1 1, 3) := by decide +kernel
theorem dX7_digest_214 : decode cX7_digest 214 = .ok (.goto (-22), 3) := by decide +kernel
theorem dX7_digest_217 : decode cX7_digest 217 = .ok (.aload_n 0, 1) := by decide +kernel
theorem dX7_digest_218 : decode cX7_digest 218 = .ok (.getfield 236, 3) := by decide +kernel
theorem dX7_digest_221 : decode cX7_digest 221 = .ok (.lreturn, 1) := by decide +kernel
