theorem d_Mo_matchesUp_48 : decode c_Mo_matchesUp 48 = .ok (.iload_n 1, 1) := by decide +kernel
theorem d_Mo_matchesUp_49 : decode c_Mo_matchesUp 49 = .ok (.invokestatic 114, 3) := by decide +kernel
theorem d_Mo_matchesUp_52 : decode c_Mo_matchesUp 52 = .ok (.iaload, 1) := by decide +kernel
theorem d_Mo_matchesUp_53 : decode c_Mo_matchesUp 53 = .ok (.if_icmp .ne 16, 3) := by decide +kernel
theorem d_Mo_matchesUp_56 : decode c_Mo_matchesUp 56 = .ok (.aload_n 0, 1) := by decide +kernel
theorem d_Mo_matchesUp_57 : decode c_Mo_matchesUp 57 = .ok (.iload_n 1, 1) := by decide +kernel
theorem d_Mo_matchesUp_58 : decode c_Mo_matchesUp 58 = .ok (.iload_n 3, 1) := by decide +kernel
theorem d_Mo_matchesUp_59 : decode c_Mo_matchesUp 59 = .ok (.invokevirtual 200, 3) := by decide +kernel
theorem d_Mo_matchesUp_62 : decode c_Mo_matchesUp 62 = .ok (.ifCond .le 7, 3) := by decide +kernel
theorem d_Mo_matchesUp_65 : decode c_Mo_matchesUp 65 = .ok (.iconst 1, 1) := by decide +kernel
theorem d_Mo_matchesUp_66 : decode c_Mo_matchesUp 66 = .ok (.goto 4, 3) := by decide +kernel
theorem d_Mo_matchesUp_69 : decode c_Mo_matchesUp 69 = .ok (.iconst 0, 1) := by decide +kernel
theorem d_Mo_matchesUp_70 : decode c_Mo_matchesUp 70 = .ok (.istore 4, 2) := by decide +kernel
theorem d_Mo_matchesUp_72 : decode c_Mo_matchesUp 72 = .ok (.iload 4, 2) := by decide +kernel
theorem d_Mo_matchesUp_74 : decode c_Mo_matchesUp 74 = .ok (.ifCond .eq 38, 3) := by decide +kernel
theorem d_Mo_matchesUp_77 : decode c_Mo_matchesUp 77 = .ok (.iload_n 2, 1) := by decide +kernel
theorem d_Mo_matchesUp_78 : decode c_Mo_matchesUp 78 = .ok (.ifCond .lt 32, 3) := by decide +kernel
theorem d_Mo_matchesUp_81 : decode c_Mo_matchesUp 81 = .ok (.aload_n 0, 1) := by decide +kernel
theorem d_Mo_matchesUp_82 : decode c_Mo_matchesUp 82 = .ok (.iload_n 1, 1) := by decide +kernel
theorem d_Mo_matchesUp_83 : decode c_Mo_matchesUp 83 = .ok (.iload_n 3, 1) := by decide +kernel
theorem d_Mo_matchesUp_84 : decode c_Mo_matchesUp 84 = .ok (.invokevirtual 200, 3) := by decide +kernel
theorem d_Mo_matchesUp_87 : decode c_Mo_matchesUp 87 = .ok (.aload_n 0, 1) := by decide +kernel
theorem d_Mo_matchesUp_88 : decode c_Mo_matchesUp 88 = .ok (.iload_n 1, 1) := by decide +kernel
theorem d_Mo_matchesUp_89 : decode c_Mo_matchesUp 89 = .ok (.iload_n 2, 1) := by decide +kernel
theorem d_Mo_matchesUp_90 : decode c_Mo_matchesUp 90 = .ok (.invokevirtual 203, 3) := by decide +kernel
theorem d_Mo_matchesUp_93 : decode c_Mo_matchesUp 93 = .ok (.imul, 1) := by decide +kernel
theorem d_Mo_matchesUp_94 : decode c_Mo_matchesUp 94 = .ok (.aload_n 0, 1) := by decide +kernel
theorem d_Mo_matchesUp_95 : decode c_Mo_matchesUp 95 = .ok (.iload_n 1, 1) := by decide +kernel
theorem d_Mo_matchesUp_96 : decode c_Mo_matchesUp 96 = .ok (.iload_n 2, 1) := by decide +kernel
theorem d_Mo_matchesUp_97 : decode c_Mo_matchesUp 97 = .ok (.invokevirtual 200, 3) := by decide +kernel
theorem d_Mo_matchesUp_100 : decode c_Mo_matchesUp 100 = .ok (.aload_n 0, 1) := by decide +kernel
theorem d_Mo_matchesUp_101 : decode c_Mo_matchesUp 101 = .ok (.iload_n 1, 1) := by decide +kernel
theorem d_Mo_matchesUp_102 : decode c_Mo_matchesUp 102 = .ok (.iload_n 3, 1) := by decide +kernel
theorem d_Mo_matchesUp_103 : decode c_Mo_matchesUp 103 = .ok (.invokevirtual 203, 3) := by decide +kernel
theorem d_Mo_matchesUp_106 : decode c_Mo_matchesUp 106 = .ok (.imul, 1) := by decide +kernel
theorem d_Mo_matchesUp_107 : decode c_Mo_matchesUp 107 = .ok (.if_icmp .le 5, 3) := by decide +kernel
theorem d_Mo_matchesUp_110 : decode c_Mo_matchesUp 110 = .ok (.iload_n 3, 1) := by decide +kernel
theorem d_Mo_matchesUp_111 : decode c_Mo_matchesUp 111 = .ok (.istore_n 2, 1) := by decide +kernel
theorem d_Mo_matchesUp_112 : decode c_Mo_matchesUp 112 = .ok (.iinc 3 1, 3) := by decide +kernel
theorem d_Mo_matchesUp_115 : decode c_Mo_matchesUp 115 = .ok (.goto (-111), 3) := by decide +kernel
theorem d_Mo_matchesUp_118 : decode c_Mo_matchesUp 118 = .ok (.iload_n 2, 1) := by decide +kernel
theorem d_Mo_matchesUp_119 : decode c_Mo_matchesUp 119 = .ok (.ifCond .lt 34, 3) := by decide +kernel
theorem d_Mo_matchesUp_122 : decode c_Mo_matchesUp 122 = .ok (.sipush 200, 3) := by decide +kernel
theorem d_Mo_matchesUp_125 : decode c_Mo_matchesUp 125 = .ok (.aload_n 0, 1) := by decide +kernel
theorem d_Mo_matchesUp_126 : decode c_Mo_matchesUp 126 = .ok (.iload_n 1, 1) := by decide +kernel
theorem d_Mo_matchesUp_127 : decode c_Mo_matchesUp 127 = .ok (.iload_n 2, 1) := by decide +kernel
theorem d_Mo_matchesUp_128 : decode c_Mo_matchesUp 128 = .ok (.invokevirtual 200, 3) := by decide +kernel
theorem d_Mo_matchesUp_131 : decode c_Mo_matchesUp 131 = .ok (.imul, 1) := by decide +kernel
theorem d_Mo_matchesUp_132 : decode c_Mo_matchesUp 132 = .ok (.aload_n 0, 1) := by decide +kernel
theorem d_Mo_matchesUp_133 : decode c_Mo_matchesUp 133 = .ok (.getfield 26, 3) := by decide +kernel
theorem d_Mo_matchesUp_136 : decode c_Mo_matchesUp 136 = .ok (.aload_n 0, 1) := by decide +kernel
theorem d_Mo_matchesUp_137 : decode c_Mo_matchesUp 137 = .ok (.iload_n 1, 1) := by decide +kernel
theorem d_Mo_matchesUp_138 : decode c_Mo_matchesUp 138 = .ok (.iload_n 2, 1) := by decide +kernel
theorem d_Mo_matchesUp_139 : decode c_Mo_matchesUp 139 = .ok (.invokevirtual 203, 3) := by decide +kernel
theorem d_Mo_matchesUp_142 : decode c_Mo_matchesUp 142 = .ok (.imul, 1) := by decide +kernel
theorem d_Mo_matchesUp_143 : decode c_Mo_matchesUp 143 = .ok (.if_icmp .lt 10, 3) := by decide +kernel
theorem d_Mo_matchesUp_146 : decode c_Mo_matchesUp 146 = .ok (.aload_n 0, 1) := by decide +kernel
theorem d_Mo_matchesUp_147 : decode c_Mo_matchesUp 147 = .ok (.iload_n 1, 1) := by decide +kernel
theorem d_Mo_matchesUp_148 : decode c_Mo_matchesUp 148 = .ok (.iload_n 2, 1) := by decide +kernel
theorem d_Mo_matchesUp_149 : decode c_Mo_matchesUp 149 = .ok (.iconst 2, 1) := by decide +kernel
theorem d_Mo_matchesUp_150 : decode c_Mo_matchesUp 150 = .ok (.invokevirtual 193, 3) := by decide +kernel
theorem d_Mo_matchesUp_153 : decode c_Mo_matchesUp 153 = .ok (.return_, 1) := by decide +kernel
theorem d_Mo_findPost_0 : decode c_Mo_findPost 0 = .ok (.iconst 0, 1) := by decide +kernel
theorem d_Mo_findPost_1 : decode c_Mo_findPost 1 = .ok (.istore_n 2, 1) := by decide +kernel
theorem d_Mo_findPost_2 : decode c_Mo_findPost 2 = .ok (.aload_n 0, 1) := by decide +kernel
theorem d_Mo_findPost_3 : decode c_Mo_findPost 3 = .ok (.iconst 0, 1) := by decide +kernel
theorem d_Mo_findPost_4 : decode c_Mo_findPost 4 = .ok (.putfield 131, 3) := by decide +kernel
theorem d_Mo_findPost_7 : decode c_Mo_findPost 7 = .ok (.iconst 0, 1) := by decide +kernel
theorem d_Mo_findPost_8 : decode c_Mo_findPost 8 = .ok (.istore_n 3, 1) := by decide +kernel
theorem d_Mo_findPost_9 : decode c_Mo_findPost 9 = .ok (.iload_n 3, 1) := by decide +kernel
theorem d_Mo_findPost_10 : decode c_Mo_findPost 10 = .ok (.aload_n 0, 1) := by decide +kernel
theorem d_Mo_findPost_11 : decode c_Mo_findPost 11 = .ok (.getfield 7, 3) := by decide +kernel
theorem d_Mo_findPost_14 : decode c_Mo_findPost 14 = .ok (.iload_n 1, 1) := by decide +kernel
theorem d_Mo_findPost_15 : decode c_Mo_findPost 15 = .ok (.iaload, 1) := by decide +kernel
theorem d_Mo_findPost_16 : decode c_Mo_findPost 16 = .ok (.if_icmp .ge 91, 3) := by decide +kernel
theorem d_Mo_findPost_19 : decode c_Mo_findPost 19 = .ok (.aload_n 0, 1) := by decide +kernel
theorem d_Mo_findPost_20 : decode c_Mo_findPost 20 = .ok (.getfield 131, 3) := by decide +kernel
theorem d_Mo_findPost_23 : decode c_Mo_findPost 23 = .ok (.ifCond .le 58, 3) := by decide +kernel
theorem d_Mo_findPost_26 : decode c_Mo_findPost 26 = .ok (.aload_n 0, 1) := by decide +kernel
theorem d_Mo_findPost_27 : decode c_Mo_findPost 27 = .ok (.getfield 42, 3) := by decide +kernel
theorem d_Mo_findPost_30 : decode c_Mo_findPost 30 = .ok (.aload_n 0, 1) := by decide +kernel
theorem d_Mo_findPost_31 : decode c_Mo_findPost 31 = .ok (.getfield 131, 3) := by decide +kernel
theorem d_Mo_findPost_34 : decode c_Mo_findPost 34 = .ok (.iconst 1, 1) := by decide +kernel
theorem d_Mo_findPost_35 : decode c_Mo_findPost 35 = .ok (.isub, 1) := by decide +kernel
theorem d_Mo_findPost_36 : decode c_Mo_findPost 36 = .ok (.iaload, 1) := by decide +kernel
theorem d_Mo_findPost_37 : decode c_Mo_findPost 37 = .ok (.aload_n 0, 1) := by decide +kernel
theorem d_Mo_findPost_38 : decode c_Mo_findPost 38 = .ok (.getfield 19, 3) := by decide +kernel
theorem d_Mo_findPost_41 : decode c_Mo_findPost 41 = .ok (.iload_n 1, 1) := by decide +kernel
theorem d_Mo_findPost_42 : decode c_Mo_findPost 42 = .ok (.iload_n 3, 1) := by decide +kernel
theorem d_Mo_findPost_43 : decode c_Mo_findPost 43 = .ok (.invokestatic 114, 3) := by decide +kernel
theorem d_Mo_findPost_46 : decode c_Mo_findPost 46 = .ok (.iaload, 1) := by decide +kernel
theorem d_Mo_findPost_47 : decode c_Mo_findPost 47 = .ok (.if_icmp .eq 34, 3) := by decide +kernel
theorem d_Mo_findPost_50 : decode c_Mo_findPost 50 = .ok (.aload_n 0, 1) := by decide +kernel
theorem d_Mo_findPost_51 : decode c_Mo_findPost 51 = .ok (.dup, 1) := by decide +kernel
theorem d_Mo_findPost_52 : decode c_Mo_findPost 52 = .ok (.getfield 131, 3) := by decide +kernel
theorem d_Mo_findPost_55 : decode c_Mo_findPost 55 = .ok (.iconst 1, 1) := by decide +kernel
theorem d_Mo_findPost_56 : decode c_Mo_findPost 56 = .ok (.isub, 1) := by decide +kernel
theorem d_Mo_findPost_57 : decode c_Mo_findPost 57 = .ok (.putfield 131, 3) := by decide +kernel
theorem d_Mo_findPost_60 : decode c_Mo_findPost 60 = .ok (.aload_n 0, 1) := by decide +kernel
theorem d_Mo_findPost_61 : decode c_Mo_findPost 61 = .ok (.getfield 60, 3) := by decide +kernel
theorem d_Mo_findPost_64 : decode c_Mo_findPost 64 = .ok (.iload_n 2, 1) := by decide +kernel
theorem d_Mo_findPost_65 : decode c_Mo_findPost 65 = .ok (.aload_n 0, 1) := by decide +kernel
theorem d_Mo_findPost_66 : decode c_Mo_findPost 66 = .ok (.getfield 42, 3) := by decide +kernel
theorem d_Mo_findPost_69 : decode c_Mo_findPost 69 = .ok (.aload_n 0, 1) := by decide +kernel
theorem d_Mo_findPost_70 : decode c_Mo_findPost 70 = .ok (.getfield 131, 3) := by decide +kernel
theorem d_Mo_findPost_73 : decode c_Mo_findPost 73 = .ok (.iaload, 1) := by decide +kernel
theorem d_Mo_findPost_74 : decode c_Mo_findPost 74 = .ok (.iastore, 1) := by decide +kernel
theorem d_Mo_findPost_75 : decode c_Mo_findPost 75 = .ok (.iinc 2 1, 3) := by decide +kernel
theorem d_Mo_findPost_78 : decode c_Mo_findPost 78 = .ok (.goto (-59), 3) := by decide +kernel
theorem d_Mo_findPost_81 : decode c_Mo_findPost 81 = .ok (.aload_n 0, 1) := by decide +kernel
theorem d_Mo_findPost_82 : decode c_Mo_findPost 82 = .ok (.getfield 42, 3) := by decide +kernel
theorem d_Mo_findPost_85 : decode c_Mo_findPost 85 = .ok (.aload_n 0, 1) := by decide +kernel
theorem d_Mo_findPost_86 : decode c_Mo_findPost 86 = .ok (.getfield 131, 3) := by decide +kernel
theorem d_Mo_findPost_89 : decode c_Mo_findPost 89 = .ok (.iload_n 3, 1) := by decide +kernel
theorem d_Mo_findPost_90 : decode c_Mo_findPost 90 = .ok (.iastore, 1) := by decide +kernel
theorem d_Mo_findPost_91 : decode c_Mo_findPost 91 = .ok (.aload_n 0, 1) := by decide +kernel
theorem d_Mo_findPost_92 : decode c_Mo_findPost 92 = .ok (.dup, 1) := by decide +kernel
theorem d_Mo_findPost_93 : decode c_Mo_findPost 93 = .ok (.getfield 131, 3) := by decide +kernel
theorem d_Mo_findPost_96 : decode c_Mo_findPost 96 = .ok (.iconst 1, 1) := by decide +kernel
theorem d_Mo_findPost_97 : decode c_Mo_findPost 97 = .ok (.iadd, 1) := by decide +kernel
theorem d_Mo_findPost_98 : decode c_Mo_findPost 98 = .ok (.putfield 131, 3) := by decide +kernel
theorem d_Mo_findPost_101 : decode c_Mo_findPost 101 = .ok (.iinc 3 1, 3) := by decide +kernel
theorem d_Mo_findPost_104 : decode c_Mo_findPost 104 = .ok (.goto (-95), 3) := by decide +kernel
theorem d_Mo_findPost_107 : decode c_Mo_findPost 107 = .ok (.aload_n 0, 1) := by decide +kernel
theorem d_Mo_findPost_108 : decode c_Mo_findPost 108 = .ok (.getfield 131, 3) := by decide +kernel
theorem d_Mo_findPost_111 : decode c_Mo_findPost 111 = .ok (.ifCond .le 34, 3) := by decide +kernel
theorem d_Mo_findPost_114 : decode c_Mo_findPost 114 = .ok (.aload_n 0, 1) := by decide +kernel
theorem d_Mo_findPost_115 : decode c_Mo_findPost 115 = .ok (.dup, 1) := by decide +kernel
theorem d_Mo_findPost_116 : decode c_Mo_findPost 116 = .ok (.getfield 131, 3) := by decide +kernel
theorem d_Mo_findPost_119 : decode c_Mo_findPost 119 = .ok (.iconst 1, 1) := by decide +kernel
theorem d_Mo_findPost_120 : decode c_Mo_findPost 120 = .ok (.isub, 1) := by decide +kernel
theorem d_Mo_findPost_121 : decode c_Mo_findPost 121 = .ok (.putfield 131, 3) := by decide +kernel
theorem d_Mo_findPost_124 : decode c_Mo_findPost 124 = .ok (.aload_n 0, 1) := by decide +kernel
theorem d_Mo_findPost_125 : decode c_Mo_findPost 125 = .ok (.getfield 60, 3) := by decide +kernel
theorem d_Mo_findPost_128 : decode c_Mo_findPost 128 = .ok (.iload_n 2, 1) := by decide +kernel
theorem d_Mo_findPost_129 : decode c_Mo_findPost 129 = .ok (.aload_n 0, 1) := by decide +kernel
theorem d_Mo_findPost_130 : decode c_Mo_findPost 130 = .ok (.getfield 42, 3) := by decide +kernel
theorem d_Mo_findPost_133 : decode c_Mo_findPost 133 = .ok (.aload_n 0, 1) := by decide +kernel
theorem d_Mo_findPost_134 : decode c_Mo_findPost 134 = .ok (.getfield 131, 3) := by decide +kernel
theorem d_Mo_findPost_137 : decode c_Mo_findPost 137 = .ok (.iaload, 1) := by decide +kernel
theorem d_Mo_findPost_138 : decode c_Mo_findPost 138 = .ok (.iastore, 1) := by decide +kernel
theorem d_Mo_findPost_139 : decode c_Mo_findPost 139 = .ok (.iinc 2 1, 3) := by decide +kernel
theorem d_Mo_findPost_142 : decode c_Mo_findPost 142 = .ok (.goto (-35), 3) := by decide +kernel
theorem d_Mo_findPost_145 : decode c_Mo_findPost 145 = .ok (.return_, 1) := by decide +kernel
theorem d_Mo_matches_0 : decode c_Mo_matches 0 = .ok (.iconst 0, 1) := by decide +kernel
theorem d_Mo_matches_1 : decode c_Mo_matches 1 = .ok (.istore_n 1, 1) := by decide +kernel
theorem d_Mo_matches_2 : decode c_Mo_matches 2 = .ok (.iload_n 1, 1) := by decide +kernel
theorem d_Mo_matches_3 : decode c_Mo_matches 3 = .ok (.bipush 24, 2) := by decide +kernel
theorem d_Mo_matches_5 : decode c_Mo_matches 5 = .ok (.if_icmp .ge 31, 3) := by decide +kernel
theorem d_Mo_matches_8 : decode c_Mo_matches 8 = .ok (.aload_n 0, 1) := by decide +kernel
theorem d_Mo_matches_9 : decode c_Mo_matches 9 = .ok (.getfield 51, 3) := by decide +kernel
theorem d_Mo_matches_12 : decode c_Mo_matches 12 = .ok (.iload_n 1, 1) := by decide +kernel
theorem d_Mo_matches_13 : decode c_Mo_matches 13 = .ok (.iconst (-1), 1) := by decide +kernel
theorem d_Mo_matches_14 : decode c_Mo_matches 14 = .ok (.iastore, 1) := by decide +kernel
theorem d_Mo_matches_15 : decode c_Mo_matches 15 = .ok (.aload_n 0, 1) := by decide +kernel
theorem d_Mo_matches_16 : decode c_Mo_matches 16 = .ok (.getfield 54, 3) := by decide +kernel
theorem d_Mo_matches_19 : decode c_Mo_matches 19 = .ok (.iload_n 1, 1) := by decide +kernel
theorem d_Mo_matches_20 : decode c_Mo_matches 20 = .ok (.iconst (-1), 1) := by decide +kernel
theorem d_Mo_matches_21 : decode c_Mo_matches 21 = .ok (.iastore, 1) := by decide +kernel
theorem d_Mo_matches_22 : decode c_Mo_matches 22 = .ok (.aload_n 0, 1) := by decide +kernel
theorem d_Mo_matches_23 : decode c_Mo_matches 23 = .ok (.getfield 57, 3) := by decide +kernel
theorem d_Mo_matches_26 : decode c_Mo_matches 26 = .ok (.iload_n 1, 1) := by decide +kernel
theorem d_Mo_matches_27 : decode c_Mo_matches 27 = .ok (.bipush (-15), 2) := by decide +kernel
theorem d_Mo_matches_29 : decode c_Mo_matches 29 = .ok (.iastore, 1) := by decide +kernel
theorem d_Mo_matches_30 : decode c_Mo_matches 30 = .ok (.iinc 1 1, 3) := by decide +kernel
theorem d_Mo_matches_33 : decode c_Mo_matches 33 = .ok (.goto (-31), 3) := by decide +kernel
theorem d_Mo_matches_36 : decode c_Mo_matches 36 = .ok (.aload_n 0, 1) := by decide +kernel
theorem d_Mo_matches_37 : decode c_Mo_matches 37 = .ok (.invokevirtual 206, 3) := by decide +kernel
theorem d_Mo_matches_40 : decode c_Mo_matches 40 = .ok (.aload_n 0, 1) := by decide +kernel
theorem d_Mo_matches_41 : decode c_Mo_matches 41 = .ok (.iconst 0, 1) := by decide +kernel
theorem d_Mo_matches_42 : decode c_Mo_matches 42 = .ok (.invokevirtual 209, 3) := by decide +kernel
theorem d_Mo_matches_45 : decode c_Mo_matches 45 = .ok (.iconst 0, 1) := by decide +kernel
theorem d_Mo_matches_46 : decode c_Mo_matches 46 = .ok (.istore_n 1, 1) := by decide +kernel
theorem d_Mo_matches_47 : decode c_Mo_matches 47 = .ok (.iload_n 1, 1) := by decide +kernel
theorem d_Mo_matches_48 : decode c_Mo_matches 48 = .ok (.aload_n 0, 1) := by decide +kernel
theorem d_Mo_matches_49 : decode c_Mo_matches 49 = .ok (.getfield 7, 3) := by decide +kernel
theorem d_Mo_matches_52 : decode c_Mo_matches 52 = .ok (.iconst 0, 1) := by decide +kernel
theorem d_Mo_matches_53 : decode c_Mo_matches 53 = .ok (.iaload, 1) := by decide +kernel
theorem d_Mo_matches_54 : decode c_Mo_matches 54 = .ok (.if_icmp .ge 48, 3) := by decide +kernel
theorem d_Mo_matches_57 : decode c_Mo_matches 57 = .ok (.aload_n 0, 1) := by decide +kernel
theorem d_Mo_matches_58 : decode c_Mo_matches 58 = .ok (.getfield 51, 3) := by decide +kernel
theorem d_Mo_matches_61 : decode c_Mo_matches 61 = .ok (.aload_n 0, 1) := by decide +kernel
theorem d_Mo_matches_62 : decode c_Mo_matches 62 = .ok (.getfield 60, 3) := by decide +kernel
theorem d_Mo_matches_65 : decode c_Mo_matches 65 = .ok (.iload_n 1, 1) := by decide +kernel
theorem d_Mo_matches_66 : decode c_Mo_matches 66 = .ok (.iaload, 1) := by decide +kernel
theorem d_Mo_matches_67 : decode c_Mo_matches 67 = .ok (.iaload, 1) := by decide +kernel
theorem d_Mo_matches_68 : decode c_Mo_matches 68 = .ok (.ifCond .ge 28, 3) := by decide +kernel
theorem d_Mo_matches_71 : decode c_Mo_matches 71 = .ok (.aload_n 0, 1) := by decide +kernel
theorem d_Mo_matches_72 : decode c_Mo_matches 72 = .ok (.iconst 0, 1) := by decide +kernel
theorem d_Mo_matches_73 : decode c_Mo_matches 73 = .ok (.aload_n 0, 1) := by decide +kernel
theorem d_Mo_matches_74 : decode c_Mo_matches 74 = .ok (.getfield 60, 3) := by decide +kernel
theorem d_Mo_matches_77 : decode c_Mo_matches 77 = .ok (.iload_n 1, 1) := by decide +kernel
theorem d_Mo_matches_78 : decode c_Mo_matches 78 = .ok (.iaload, 1) := by decide +kernel
theorem d_Mo_matches_79 : decode c_Mo_matches 79 = .ok (.invokevirtual 163, 3) := by decide +kernel
theorem d_Mo_matches_82 : decode c_Mo_matches 82 = .ok (.iconst 1, 1) := by decide +kernel
theorem d_Mo_matches_83 : decode c_Mo_matches 83 = .ok (.if_icmp .le 13, 3) := by decide +kernel
theorem d_Mo_matches_86 : decode c_Mo_matches 86 = .ok (.aload_n 0, 1) := by decide +kernel
theorem d_Mo_matches_87 : decode c_Mo_matches 87 = .ok (.aload_n 0, 1) := by decide +kernel
theorem d_Mo_matches_88 : decode c_Mo_matches 88 = .ok (.getfield 60, 3) := by decide +kernel
theorem d_Mo_matches_91 : decode c_Mo_matches 91 = .ok (.iload_n 1, 1) := by decide +kernel
theorem d_Mo_matches_92 : decode c_Mo_matches 92 = .ok (.iaload, 1) := by decide +kernel
theorem d_Mo_matches_93 : decode c_Mo_matches 93 = .ok (.invokevirtual 213, 3) := by decide +kernel
theorem d_Mo_matches_96 : decode c_Mo_matches 96 = .ok (.iinc 1 1, 3) := by decide +kernel
theorem d_Mo_matches_99 : decode c_Mo_matches 99 = .ok (.goto (-52), 3) := by decide +kernel
theorem d_Mo_matches_102 : decode c_Mo_matches 102 = .ok (.aload_n 0, 1) := by decide +kernel
theorem d_Mo_matches_103 : decode c_Mo_matches 103 = .ok (.getfield 51, 3) := by decide +kernel
theorem d_Mo_matches_106 : decode c_Mo_matches 106 = .ok (.iconst 0, 1) := by decide +kernel
theorem d_Mo_matches_107 : decode c_Mo_matches 107 = .ok (.iaload, 1) := by decide +kernel
theorem d_Mo_matches_108 : decode c_Mo_matches 108 = .ok (.ifCond .ge 42, 3) := by decide +kernel
theorem d_Mo_matches_111 : decode c_Mo_matches 111 = .ok (.aload_n 0, 1) := by decide +kernel
theorem d_Mo_matches_112 : decode c_Mo_matches 112 = .ok (.getfield 54, 3) := by decide +kernel
theorem d_Mo_matches_115 : decode c_Mo_matches 115 = .ok (.iconst 0, 1) := by decide +kernel
theorem d_Mo_matches_116 : decode c_Mo_matches 116 = .ok (.iaload, 1) := by decide +kernel
theorem d_Mo_matches_117 : decode c_Mo_matches 117 = .ok (.ifCond .ge 33, 3) := by decide +kernel
theorem d_Mo_matches_120 : decode c_Mo_matches 120 = .ok (.aload_n 0, 1) := by decide +kernel
theorem d_Mo_matches_121 : decode c_Mo_matches 121 = .ok (.getfield 13, 3) := by decide +kernel
theorem d_Mo_matches_124 : decode c_Mo_matches 124 = .ok (.iconst 0, 1) := by decide +kernel
theorem d_Mo_matches_125 : decode c_Mo_matches 125 = .ok (.iconst 0, 1) := by decide +kernel
theorem d_Mo_matches_126 : decode c_Mo_matches 126 = .ok (.invokestatic 114, 3) := by decide +kernel
theorem d_Mo_matches_129 : decode c_Mo_matches 129 = .ok (.iaload, 1) := by decide +kernel
theorem d_Mo_matches_130 : decode c_Mo_matches 130 = .ok (.aload_n 0, 1) := by decide +kernel
theorem d_Mo_matches_131 : decode c_Mo_matches 131 = .ok (.getfield 13, 3) := by decide +kernel
theorem d_Mo_matches_134 : decode c_Mo_matches 134 = .ok (.iconst 1, 1) := by decide +kernel
theorem d_Mo_matches_135 : decode c_Mo_matches 135 = .ok (.iconst 0, 1) := by decide +kernel
theorem d_Mo_matches_136 : decode c_Mo_matches 136 = .ok (.invokestatic 114, 3) := by decide +kernel
theorem d_Mo_matches_139 : decode c_Mo_matches 139 = .ok (.iaload, 1) := by decide +kernel
theorem d_Mo_matches_140 : decode c_Mo_matches 140 = .ok (.if_icmp .ne 10, 3) := by decide +kernel
theorem d_Mo_matches_143 : decode c_Mo_matches 143 = .ok (.aload_n 0, 1) := by decide +kernel
theorem d_Mo_matches_144 : decode c_Mo_matches 144 = .ok (.iconst 0, 1) := by decide +kernel
theorem d_Mo_matches_145 : decode c_Mo_matches 145 = .ok (.iconst 0, 1) := by decide +kernel
theorem d_Mo_matches_146 : decode c_Mo_matches 146 = .ok (.iconst 3, 1) := by decide +kernel
theorem d_Mo_matches_147 : decode c_Mo_matches 147 = .ok (.invokevirtual 193, 3) := by decide +kernel
theorem d_Mo_matches_150 : decode c_Mo_matches 150 = .ok (.return_, 1) := by decide +kernel
theorem d_Mo_setMatching_0 : decode c_Mo_setMatching 0 = .ok (.iload_n 1, 1) := by decide +kernel
theorem d_Mo_setMatching_1 : decode c_Mo_setMatching 1 = .ok (.iconst 1, 1) := by decide +kernel
theorem d_Mo_setMatching_2 : decode c_Mo_setMatching 2 = .ok (.bipush 9, 2) := by decide +kernel
theorem d_Mo_setMatching_4 : decode c_Mo_setMatching 4 = .ok (.invokestatic 121, 3) := by decide +kernel
theorem d_Mo_setMatching_7 : decode c_Mo_setMatching 7 = .ok (.ifCond .eq 13, 3) := by decide +kernel
theorem d_Mo_setMatching_10 : decode c_Mo_setMatching 10 = .ok (.iload_n 2, 1) := by decide +kernel
theorem d_Mo_setMatching_11 : decode c_Mo_setMatching 11 = .ok (.iconst 0, 1) := by decide +kernel
theorem d_Mo_setMatching_12 : decode c_Mo_setMatching 12 = .ok (.bipush 100, 2) := by decide +kernel
theorem d_Mo_setMatching_14 : decode c_Mo_setMatching 14 = .ok (.invokestatic 121, 3) := by decide +kernel
theorem d_Mo_setMatching_17 : decode c_Mo_setMatching 17 = .ok (.ifCond .ne 6, 3) := by decide +kernel
theorem d_Mo_setMatching_20 : decode c_Mo_setMatching 20 = .ok (.bipush (-12), 2) := by decide +kernel
theorem d_Mo_setMatching_22 : decode c_Mo_setMatching 22 = .ok (.ireturn, 1) := by decide +kernel
theorem d_Mo_setMatching_23 : decode c_Mo_setMatching 23 = .ok (.sipush 1000, 3) := by decide +kernel
theorem d_Mo_setMatching_26 : decode c_Mo_setMatching 26 = .ok (.aload_n 0, 1) := by decide +kernel
theorem d_Mo_setMatching_27 : decode c_Mo_setMatching 27 = .ok (.getfield 22, 3) := by decide +kernel
theorem d_Mo_setMatching_30 : decode c_Mo_setMatching 30 = .ok (.imul, 1) := by decide +kernel
theorem d_Mo_setMatching_31 : decode c_Mo_setMatching 31 = .ok (.aload_n 0, 1) := by decide +kernel
theorem d_Mo_setMatching_32 : decode c_Mo_setMatching 32 = .ok (.getfield 26, 3) := by decide +kernel
theorem d_Mo_setMatching_35 : decode c_Mo_setMatching 35 = .ok (.iadd, 1) := by decide +kernel
theorem d_Mo_setMatching_36 : decode c_Mo_setMatching 36 = .ok (.istore_n 3, 1) := by decide +kernel
theorem d_Mo_setMatching_37 : decode c_Mo_setMatching 37 = .ok (.aload_n 0, 1) := by decide +kernel
theorem d_Mo_setMatching_38 : decode c_Mo_setMatching 38 = .ok (.iload_n 1, 1) := by decide +kernel
theorem d_Mo_setMatching_39 : decode c_Mo_setMatching 39 = .ok (.putfield 22, 3) := by decide +kernel
theorem d_Mo_setMatching_42 : decode c_Mo_setMatching 42 = .ok (.aload_n 0, 1) := by decide +kernel
theorem d_Mo_setMatching_43 : decode c_Mo_setMatching 43 = .ok (.iload_n 2, 1) := by decide +kernel
theorem d_Mo_setMatching_44 : decode c_Mo_setMatching 44 = .ok (.putfield 26, 3) := by decide +kernel
theorem d_Mo_setMatching_47 : decode c_Mo_setMatching 47 = .ok (.aload_n 0, 1) := by decide +kernel
theorem d_Mo_setMatching_48 : decode c_Mo_setMatching 48 = .ok (.invokevirtual 118, 3) := by decide +kernel
theorem d_Mo_setMatching_51 : decode c_Mo_setMatching 51 = .ok (.iload_n 3, 1) := by decide +kernel
theorem d_Mo_setMatching_52 : decode c_Mo_setMatching 52 = .ok (.ireturn, 1) := by decide +kernel
theorem d_Mo_pairs_0 : decode c_Mo_pairs 0 = .ok (.aload_n 0, 1) := by decide +kernel
theorem d_Mo_pairs_1 : decode c_Mo_pairs 1 = .ok (.invokevirtual 216, 3) := by decide +kernel
theorem d_Mo_pairs_4 : decode c_Mo_pairs 4 = .ok (.iconst 0, 1) := by decide +kernel
theorem d_Mo_pairs_5 : decode c_Mo_pairs 5 = .ok (.istore_n 1, 1) := by decide +kernel
theorem d_Mo_pairs_6 : decode c_Mo_pairs 6 = .ok (.iconst 0, 1) := by decide +kernel
theorem d_Mo_pairs_7 : decode c_Mo_pairs 7 = .ok (.istore_n 2, 1) := by decide +kernel
theorem d_Mo_pairs_8 : decode c_Mo_pairs 8 = .ok (.iload_n 2, 1) := by decide +kernel
theorem d_Mo_pairs_9 : decode c_Mo_pairs 9 = .ok (.aload_n 0, 1) := by decide +kernel
theorem d_Mo_pairs_10 : decode c_Mo_pairs 10 = .ok (.getfield 7, 3) := by decide +kernel
theorem d_Mo_pairs_13 : decode c_Mo_pairs 13 = .ok (.iconst 0, 1) := by decide +kernel
theorem d_Mo_pairs_14 : decode c_Mo_pairs 14 = .ok (.iaload, 1) := by decide +kernel
theorem d_Mo_pairs_15 : decode c_Mo_pairs 15 = .ok (.if_icmp .ge 26, 3) := by decide +kernel
theorem d_Mo_pairs_18 : decode c_Mo_pairs 18 = .ok (.iload_n 1, 1) := by decide +kernel
theorem d_Mo_pairs_19 : decode c_Mo_pairs 19 = .ok (.aload_n 0, 1) := by decide +kernel
theorem d_Mo_pairs_20 : decode c_Mo_pairs 20 = .ok (.getfield 51, 3) := by decide +kernel
theorem d_Mo_pairs_23 : decode c_Mo_pairs 23 = .ok (.iload_n 2, 1) := by decide +kernel
theorem d_Mo_pairs_24 : decode c_Mo_pairs 24 = .ok (.iaload, 1) := by decide +kernel
theorem d_Mo_pairs_25 : decode c_Mo_pairs 25 = .ok (.ifCond .ge 7, 3) := by decide +kernel
theorem d_Mo_pairs_28 : decode c_Mo_pairs 28 = .ok (.iconst 0, 1) := by decide +kernel
theorem d_Mo_pairs_29 : decode c_Mo_pairs 29 = .ok (.goto 4, 3) := by decide +kernel
theorem d_Mo_pairs_32 : decode c_Mo_pairs 32 = .ok (.iconst 1, 1) := by decide +kernel
theorem d_Mo_pairs_33 : decode c_Mo_pairs 33 = .ok (.iadd, 1) := by decide +kernel
theorem d_Mo_pairs_34 : decode c_Mo_pairs 34 = .ok (.istore_n 1, 1) := by decide +kernel
theorem d_Mo_pairs_35 : decode c_Mo_pairs 35 = .ok (.iinc 2 1, 3) := by decide +kernel
theorem d_Mo_pairs_38 : decode c_Mo_pairs 38 = .ok (.goto (-30), 3) := by decide +kernel
theorem d_Mo_pairs_41 : decode c_Mo_pairs 41 = .ok (.iload_n 1, 1) := by decide +kernel
theorem d_Mo_pairs_42 : decode c_Mo_pairs 42 = .ok (.ireturn, 1) := by decide +kernel
theorem d_Mo_partner_0 : decode c_Mo_partner 0 = .ok (.aload_n 0, 1) := by decide +kernel
theorem d_Mo_partner_1 : decode c_Mo_partner 1 = .ok (.iload_n 1, 1) := by decide +kernel
theorem d_Mo_partner_2 : decode c_Mo_partner 2 = .ok (.iload_n 2, 1) := by decide +kernel
theorem d_Mo_partner_3 : decode c_Mo_partner 3 = .ok (.invokevirtual 166, 3) := by decide +kernel
theorem d_Mo_partner_6 : decode c_Mo_partner 6 = .ok (.ifCond .ne 6, 3) := by decide +kernel
theorem d_Mo_partner_9 : decode c_Mo_partner 9 = .ok (.bipush (-11), 2) := by decide +kernel
theorem d_Mo_partner_11 : decode c_Mo_partner 11 = .ok (.ireturn, 1) := by decide +kernel
theorem d_Mo_partner_12 : decode c_Mo_partner 12 = .ok (.aload_n 0, 1) := by decide +kernel
theorem d_Mo_partner_13 : decode c_Mo_partner 13 = .ok (.invokevirtual 216, 3) := by decide +kernel
theorem d_Mo_partner_16 : decode c_Mo_partner 16 = .ok (.iload_n 1, 1) := by decide +kernel
theorem d_Mo_partner_17 : decode c_Mo_partner 17 = .ok (.ifCond .ne 12, 3) := by decide +kernel
theorem d_Mo_partner_20 : decode c_Mo_partner 20 = .ok (.aload_n 0, 1) := by decide +kernel
theorem d_Mo_partner_21 : decode c_Mo_partner 21 = .ok (.getfield 51, 3) := by decide +kernel
theorem d_Mo_partner_24 : decode c_Mo_partner 24 = .ok (.iload_n 2, 1) := by decide +kernel
theorem d_Mo_partner_25 : decode c_Mo_partner 25 = .ok (.iaload, 1) := by decide +kernel
theorem d_Mo_partner_26 : decode c_Mo_partner 26 = .ok (.goto 9, 3) := by decide +kernel
theorem d_Mo_partner_29 : decode c_Mo_partner 29 = .ok (.aload_n 0, 1) := by decide +kernel
theorem d_Mo_partner_30 : decode c_Mo_partner 30 = .ok (.getfield 54, 3) := by decide +kernel
theorem d_Mo_partner_33 : decode c_Mo_partner 33 = .ok (.iload_n 2, 1) := by decide +kernel
theorem d_Mo_partner_34 : decode c_Mo_partner 34 = .ok (.iaload, 1) := by decide +kernel
theorem d_Mo_partner_35 : decode c_Mo_partner 35 = .ok (.istore_n 3, 1) := by decide +kernel
theorem d_Mo_partner_36 : decode c_Mo_partner 36 = .ok (.iload_n 3, 1) := by decide +kernel
theorem d_Mo_partner_37 : decode c_Mo_partner 37 = .ok (.ifCond .ge 8, 3) := by decide +kernel
theorem d_Mo_partner_40 : decode c_Mo_partner 40 = .ok (.bipush (-15), 2) := by decide +kernel
theorem d_Mo_partner_42 : decode c_Mo_partner 42 = .ok (.goto 4, 3) := by decide +kernel
theorem d_Mo_partner_45 : decode c_Mo_partner 45 = .ok (.iload_n 3, 1) := by decide +kernel
theorem d_Mo_partner_46 : decode c_Mo_partner 46 = .ok (.ireturn, 1) := by decide +kernel
theorem d_Mo_phase_0 : decode c_Mo_phase 0 = .ok (.aload_n 0, 1) := by decide +kernel
theorem d_Mo_phase_1 : decode c_Mo_phase 1 = .ok (.iconst 0, 1) := by decide +kernel
theorem d_Mo_phase_2 : decode c_Mo_phase 2 = .ok (.iload_n 1, 1) := by decide +kernel
theorem d_Mo_phase_3 : decode c_Mo_phase 3 = .ok (.invokevirtual 166, 3) := by decide +kernel
theorem d_Mo_phase_6 : decode c_Mo_phase 6 = .ok (.ifCond .ne 6, 3) := by decide +kernel
theorem d_Mo_phase_9 : decode c_Mo_phase 9 = .ok (.bipush (-11), 2) := by decide +kernel
theorem d_Mo_phase_11 : decode c_Mo_phase 11 = .ok (.ireturn, 1) := by decide +kernel
theorem d_Mo_phase_12 : decode c_Mo_phase 12 = .ok (.aload_n 0, 1) := by decide +kernel
theorem d_Mo_phase_13 : decode c_Mo_phase 13 = .ok (.invokevirtual 216, 3) := by decide +kernel
theorem d_Mo_phase_16 : decode c_Mo_phase 16 = .ok (.aload_n 0, 1) := by decide +kernel
theorem d_Mo_phase_17 : decode c_Mo_phase 17 = .ok (.getfield 57, 3) := by decide +kernel
theorem d_Mo_phase_20 : decode c_Mo_phase 20 = .ok (.iload_n 1, 1) := by decide +kernel
theorem d_Mo_phase_21 : decode c_Mo_phase 21 = .ok (.iaload, 1) := by decide +kernel
theorem d_Mo_phase_22 : decode c_Mo_phase 22 = .ok (.ireturn, 1) := by decide +kernel
theorem d_Mo_likeness_0 : decode c_Mo_likeness 0 = .ok (.aload_n 0, 1) := by decide +kernel
theorem d_Mo_likeness_1 : decode c_Mo_likeness 1 = .ok (.iconst 0, 1) := by decide +kernel
theorem d_Mo_likeness_2 : decode c_Mo_likeness 2 = .ok (.iload_n 1, 1) := by decide +kernel
theorem d_Mo_likeness_3 : decode c_Mo_likeness 3 = .ok (.invokevirtual 166, 3) := by decide +kernel
theorem d_Mo_likeness_6 : decode c_Mo_likeness 6 = .ok (.ifCond .eq 12, 3) := by decide +kernel
theorem d_Mo_likeness_9 : decode c_Mo_likeness 9 = .ok (.aload_n 0, 1) := by decide +kernel
theorem d_Mo_likeness_10 : decode c_Mo_likeness 10 = .ok (.iconst 1, 1) := by decide +kernel
theorem d_Mo_likeness_11 : decode c_Mo_likeness 11 = .ok (.iload_n 2, 1) := by decide +kernel
theorem d_Mo_likeness_12 : decode c_Mo_likeness 12 = .ok (.invokevirtual 166, 3) := by decide +kernel
theorem d_Mo_likeness_15 : decode c_Mo_likeness 15 = .ok (.ifCond .ne 6, 3) := by decide +kernel
theorem d_Mo_likeness_18 : decode c_Mo_likeness 18 = .ok (.bipush (-11), 2) := by decide +kernel
theorem d_Mo_likeness_20 : decode c_Mo_likeness 20 = .ok (.ireturn, 1) := by decide +kernel
theorem d_Mo_likeness_21 : decode c_Mo_likeness 21 = .ok (.aload_n 0, 1) := by decide +kernel
theorem d_Mo_likeness_22 : decode c_Mo_likeness 22 = .ok (.invokevirtual 216, 3) := by decide +kernel
theorem d_Mo_likeness_25 : decode c_Mo_likeness 25 = .ok (.aload_n 0, 1) := by decide +kernel
theorem d_Mo_likeness_26 : decode c_Mo_likeness 26 = .ok (.iload_n 1, 1) := by decide +kernel
theorem d_Mo_likeness_27 : decode c_Mo_likeness 27 = .ok (.iload_n 2, 1) := by decide +kernel
theorem d_Mo_likeness_28 : decode c_Mo_likeness 28 = .ok (.invokevirtual 203, 3) := by decide +kernel
theorem d_Mo_likeness_31 : decode c_Mo_likeness 31 = .ok (.istore_n 3, 1) := by decide +kernel
theorem d_Mo_likeness_32 : decode c_Mo_likeness 32 = .ok (.iload_n 3, 1) := by decide +kernel
theorem d_Mo_likeness_33 : decode c_Mo_likeness 33 = .ok (.ifCond .ne 7, 3) := by decide +kernel
theorem d_Mo_likeness_36 : decode c_Mo_likeness 36 = .ok (.iconst 0, 1) := by decide +kernel
theorem d_Mo_likeness_37 : decode c_Mo_likeness 37 = .ok (.goto 15, 3) := by decide +kernel
theorem d_Mo_likeness_40 : decode c_Mo_likeness 40 = .ok (.sipush 200, 3) := by decide +kernel
theorem d_Mo_likeness_43 : decode c_Mo_likeness 43 = .ok (.aload_n 0, 1) := by decide +kernel
theorem d_Mo_likeness_44 : decode c_Mo_likeness 44 = .ok (.iload_n 1, 1) := by decide +kernel
theorem d_Mo_likeness_45 : decode c_Mo_likeness 45 = .ok (.iload_n 2, 1) := by decide +kernel
theorem d_Mo_likeness_46 : decode c_Mo_likeness 46 = .ok (.invokevirtual 200, 3) := by decide +kernel
theorem d_Mo_likeness_49 : decode c_Mo_likeness 49 = .ok (.imul, 1) := by decide +kernel
theorem d_Mo_likeness_50 : decode c_Mo_likeness 50 = .ok (.iload_n 3, 1) := by decide +kernel
theorem d_Mo_likeness_51 : decode c_Mo_likeness 51 = .ok (.idiv, 1) := by decide +kernel
theorem d_Mo_likeness_52 : decode c_Mo_likeness 52 = .ok (.ireturn, 1) := by decide +kernel
theorem d_Mo_number_0 : decode c_Mo_number 0 = .ok (.iload_n 0, 1) := by decide +kernel
theorem d_Mo_number_1 : decode c_Mo_number 1 = .ok (.bipush 48, 2) := by decide +kernel
theorem d_Mo_number_3 : decode c_Mo_number 3 = .ok (.if_icmp .ne 7, 3) := by decide +kernel
theorem d_Mo_number_6 : decode c_Mo_number 6 = .ok (.iconst (-1), 1) := by decide +kernel
theorem d_Mo_number_7 : decode c_Mo_number 7 = .ok (.goto 17, 3) := by decide +kernel
theorem d_Mo_number_10 : decode c_Mo_number 10 = .ok (.iload_n 0, 1) := by decide +kernel
theorem d_Mo_number_11 : decode c_Mo_number 11 = .ok (.bipush 24, 2) := by decide +kernel
theorem d_Mo_number_13 : decode c_Mo_number 13 = .ok (.if_icmp .ge 7, 3) := by decide +kernel
theorem d_Mo_number_16 : decode c_Mo_number 16 = .ok (.iload_n 0, 1) := by decide +kernel
theorem d_Mo_number_17 : decode c_Mo_number 17 = .ok (.goto 7, 3) := by decide +kernel
theorem d_Mo_number_20 : decode c_Mo_number 20 = .ok (.bipush 76, 2) := by decide +kernel
theorem d_Mo_number_22 : decode c_Mo_number 22 = .ok (.iload_n 0, 1) := by decide +kernel
theorem d_Mo_number_23 : decode c_Mo_number 23 = .ok (.iadd, 1) := by decide +kernel
theorem d_Mo_number_24 : decode c_Mo_number 24 = .ok (.ireturn, 1) := by decide +kernel
theorem d_Mo_slot_0 : decode c_Mo_slot 0 = .ok (.iload_n 0, 1) := by decide +kernel
theorem d_Mo_slot_1 : decode c_Mo_slot 1 = .ok (.iconst (-1), 1) := by decide +kernel
theorem d_Mo_slot_2 : decode c_Mo_slot 2 = .ok (.if_icmp .ne 8, 3) := by decide +kernel
theorem d_Mo_slot_5 : decode c_Mo_slot 5 = .ok (.bipush 48, 2) := by decide +kernel
theorem d_Mo_slot_7 : decode c_Mo_slot 7 = .ok (.goto 36, 3) := by decide +kernel
theorem d_Mo_slot_10 : decode c_Mo_slot 10 = .ok (.iload_n 0, 1) := by decide +kernel
theorem d_Mo_slot_11 : decode c_Mo_slot 11 = .ok (.iconst 0, 1) := by decide +kernel
theorem d_Mo_slot_12 : decode c_Mo_slot 12 = .ok (.bipush 23, 2) := by decide +kernel
theorem d_Mo_slot_14 : decode c_Mo_slot 14 = .ok (.invokestatic 121, 3) := by decide +kernel
theorem d_Mo_slot_17 : decode c_Mo_slot 17 = .ok (.ifCond .eq 7, 3) := by decide +kernel
theorem d_Mo_slot_20 : decode c_Mo_slot 20 = .ok (.iload_n 0, 1) := by decide +kernel
theorem d_Mo_slot_21 : decode c_Mo_slot 21 = .ok (.goto 22, 3) := by decide +kernel
theorem d_Mo_slot_24 : decode c_Mo_slot 24 = .ok (.iload_n 0, 1) := by decide +kernel
theorem d_Mo_slot_25 : decode c_Mo_slot 25 = .ok (.bipush 100, 2) := by decide +kernel
theorem d_Mo_slot_27 : decode c_Mo_slot 27 = .ok (.bipush 123, 2) := by decide +kernel
theorem d_Mo_slot_29 : decode c_Mo_slot 29 = .ok (.invokestatic 121, 3) := by decide +kernel
theorem d_Mo_slot_32 : decode c_Mo_slot 32 = .ok (.ifCond .eq 10, 3) := by decide +kernel
theorem d_Mo_slot_35 : decode c_Mo_slot 35 = .ok (.iload_n 0, 1) := by decide +kernel
theorem d_Mo_slot_36 : decode c_Mo_slot 36 = .ok (.bipush 76, 2) := by decide +kernel
theorem d_Mo_slot_38 : decode c_Mo_slot 38 = .ok (.isub, 1) := by decide +kernel
theorem d_Mo_slot_39 : decode c_Mo_slot 39 = .ok (.goto 4, 3) := by decide +kernel
theorem d_Mo_slot_42 : decode c_Mo_slot 42 = .ok (.iconst (-1), 1) := by decide +kernel
theorem d_Mo_slot_43 : decode c_Mo_slot 43 = .ok (.ireturn, 1) := by decide +kernel
theorem d_Mo_copyBegins_0 : decode c_Mo_copyBegins 0 = .ok (.iconst 0, 1) := by decide +kernel
theorem d_Mo_copyBegins_1 : decode c_Mo_copyBegins 1 = .ok (.istore_n 2, 1) := by decide +kernel
theorem d_Mo_copyBegins_2 : decode c_Mo_copyBegins 2 = .ok (.iload_n 2, 1) := by decide +kernel
theorem d_Mo_copyBegins_3 : decode c_Mo_copyBegins 3 = .ok (.bipush 49, 2) := by decide +kernel
theorem d_Mo_copyBegins_5 : decode c_Mo_copyBegins 5 = .ok (.if_icmp .ge 24, 3) := by decide +kernel
theorem d_Mo_copyBegins_8 : decode c_Mo_copyBegins 8 = .ok (.aload_n 0, 1) := by decide +kernel
theorem d_Mo_copyBegins_9 : decode c_Mo_copyBegins 9 = .ok (.getfield 63, 3) := by decide +kernel
theorem d_Mo_copyBegins_12 : decode c_Mo_copyBegins 12 = .ok (.iload_n 2, 1) := by decide +kernel
theorem d_Mo_copyBegins_13 : decode c_Mo_copyBegins 13 = .ok (.bipush (-2), 2) := by decide +kernel
theorem d_Mo_copyBegins_15 : decode c_Mo_copyBegins 15 = .ok (.iastore, 1) := by decide +kernel
theorem d_Mo_copyBegins_16 : decode c_Mo_copyBegins 16 = .ok (.aload_n 0, 1) := by decide +kernel
theorem d_Mo_copyBegins_17 : decode c_Mo_copyBegins 17 = .ok (.getfield 75, 3) := by decide +kernel
theorem d_Mo_copyBegins_20 : decode c_Mo_copyBegins 20 = .ok (.iload_n 2, 1) := by decide +kernel
theorem d_Mo_copyBegins_21 : decode c_Mo_copyBegins 21 = .ok (.iconst 0, 1) := by decide +kernel
theorem d_Mo_copyBegins_22 : decode c_Mo_copyBegins 22 = .ok (.iastore, 1) := by decide +kernel
theorem d_Mo_copyBegins_23 : decode c_Mo_copyBegins 23 = .ok (.iinc 2 1, 3) := by decide +kernel
theorem d_Mo_copyBegins_26 : decode c_Mo_copyBegins 26 = .ok (.goto (-24), 3) := by decide +kernel
theorem d_Mo_copyBegins_29 : decode c_Mo_copyBegins 29 = .ok (.iconst 0, 1) := by decide +kernel
theorem d_Mo_copyBegins_30 : decode c_Mo_copyBegins 30 = .ok (.istore_n 2, 1) := by decide +kernel
theorem d_Mo_copyBegins_31 : decode c_Mo_copyBegins 31 = .ok (.iload_n 2, 1) := by decide +kernel
theorem d_Mo_copyBegins_32 : decode c_Mo_copyBegins 32 = .ok (.aload_n 0, 1) := by decide +kernel
theorem d_Mo_copyBegins_33 : decode c_Mo_copyBegins 33 = .ok (.getfield 7, 3) := by decide +kernel
theorem d_Mo_copyBegins_36 : decode c_Mo_copyBegins 36 = .ok (.iload_n 1, 1) := by decide +kernel
theorem d_Mo_copyBegins_37 : decode c_Mo_copyBegins 37 = .ok (.iaload, 1) := by decide +kernel
theorem d_Mo_copyBegins_38 : decode c_Mo_copyBegins 38 = .ok (.if_icmp .ge 82, 3) := by decide +kernel
theorem d_Mo_copyBegins_41 : decode c_Mo_copyBegins 41 = .ok (.aload_n 0, 1) := by decide +kernel
theorem d_Mo_copyBegins_42 : decode c_Mo_copyBegins 42 = .ok (.getfield 19, 3) := by decide +kernel
theorem d_Mo_copyBegins_45 : decode c_Mo_copyBegins 45 = .ok (.iload_n 1, 1) := by decide +kernel
theorem d_Mo_copyBegins_46 : decode c_Mo_copyBegins 46 = .ok (.iload_n 2, 1) := by decide +kernel
theorem d_Mo_copyBegins_47 : decode c_Mo_copyBegins 47 = .ok (.invokestatic 114, 3) := by decide +kernel
theorem d_Mo_copyBegins_50 : decode c_Mo_copyBegins 50 = .ok (.iaload, 1) := by decide +kernel
theorem d_Mo_copyBegins_51 : decode c_Mo_copyBegins 51 = .ok (.istore_n 3, 1) := by decide +kernel
theorem d_Mo_copyBegins_52 : decode c_Mo_copyBegins 52 = .ok (.aload_n 0, 1) := by decide +kernel
theorem d_Mo_copyBegins_53 : decode c_Mo_copyBegins 53 = .ok (.getfield 66, 3) := by decide +kernel
theorem d_Mo_copyBegins_56 : decode c_Mo_copyBegins 56 = .ok (.iload_n 2, 1) := by decide +kernel
theorem d_Mo_copyBegins_57 : decode c_Mo_copyBegins 57 = .ok (.aload_n 0, 1) := by decide +kernel
theorem d_Mo_copyBegins_58 : decode c_Mo_copyBegins 58 = .ok (.getfield 13, 3) := by decide +kernel
theorem d_Mo_copyBegins_61 : decode c_Mo_copyBegins 61 = .ok (.iload_n 1, 1) := by decide +kernel
theorem d_Mo_copyBegins_62 : decode c_Mo_copyBegins 62 = .ok (.iload_n 2, 1) := by decide +kernel
theorem d_Mo_copyBegins_63 : decode c_Mo_copyBegins 63 = .ok (.invokestatic 114, 3) := by decide +kernel
theorem d_Mo_copyBegins_66 : decode c_Mo_copyBegins 66 = .ok (.iaload, 1) := by decide +kernel
theorem d_Mo_copyBegins_67 : decode c_Mo_copyBegins 67 = .ok (.iastore, 1) := by decide +kernel
theorem d_Mo_copyBegins_68 : decode c_Mo_copyBegins 68 = .ok (.aload_n 0, 1) := by decide +kernel
theorem d_Mo_copyBegins_69 : decode c_Mo_copyBegins 69 = .ok (.getfield 69, 3) := by decide +kernel
theorem d_Mo_copyBegins_72 : decode c_Mo_copyBegins 72 = .ok (.iload_n 2, 1) := by decide +kernel
theorem d_Mo_copyBegins_73 : decode c_Mo_copyBegins 73 = .ok (.aload_n 0, 1) := by decide +kernel
theorem d_Mo_copyBegins_74 : decode c_Mo_copyBegins 74 = .ok (.getfield 16, 3) := by decide +kernel
theorem d_Mo_copyBegins_77 : decode c_Mo_copyBegins 77 = .ok (.iload_n 1, 1) := by decide +kernel
theorem d_Mo_copyBegins_78 : decode c_Mo_copyBegins 78 = .ok (.iload_n 2, 1) := by decide +kernel
theorem d_Mo_copyBegins_79 : decode c_Mo_copyBegins 79 = .ok (.invokestatic 114, 3) := by decide +kernel
theorem d_Mo_copyBegins_82 : decode c_Mo_copyBegins 82 = .ok (.iaload, 1) := by decide +kernel
theorem d_Mo_copyBegins_83 : decode c_Mo_copyBegins 83 = .ok (.iastore, 1) := by decide +kernel
theorem d_Mo_copyBegins_84 : decode c_Mo_copyBegins 84 = .ok (.aload_n 0, 1) := by decide +kernel
theorem d_Mo_copyBegins_85 : decode c_Mo_copyBegins 85 = .ok (.iload_n 2, 1) := by decide +kernel
theorem d_Mo_copyBegins_86 : decode c_Mo_copyBegins 86 = .ok (.iload_n 3, 1) := by decide +kernel
theorem d_Mo_copyBegins_87 : decode c_Mo_copyBegins 87 = .ok (.ifCond .ge 8, 3) := by decide +kernel
theorem d_Mo_copyBegins_90 : decode c_Mo_copyBegins 90 = .ok (.bipush 48, 2) := by decide +kernel
theorem d_Mo_copyBegins_92 : decode c_Mo_copyBegins 92 = .ok (.goto 4, 3) := by decide +kernel
theorem d_Mo_copyBegins_95 : decode c_Mo_copyBegins 95 = .ok (.iload_n 3, 1) := by decide +kernel
theorem d_Mo_copyBegins_96 : decode c_Mo_copyBegins 96 = .ok (.aload_n 0, 1) := by decide +kernel
theorem d_Mo_copyBegins_97 : decode c_Mo_copyBegins 97 = .ok (.getfield 75, 3) := by decide +kernel
theorem d_Mo_copyBegins_100 : decode c_Mo_copyBegins 100 = .ok (.iload_n 3, 1) := by decide +kernel
theorem d_Mo_copyBegins_101 : decode c_Mo_copyBegins 101 = .ok (.ifCond .ge 8, 3) := by decide +kernel
theorem d_Mo_copyBegins_104 : decode c_Mo_copyBegins 104 = .ok (.bipush 48, 2) := by decide +kernel
theorem d_Mo_copyBegins_106 : decode c_Mo_copyBegins 106 = .ok (.goto 4, 3) := by decide +kernel
theorem d_Mo_copyBegins_109 : decode c_Mo_copyBegins 109 = .ok (.iload_n 3, 1) := by decide +kernel
theorem d_Mo_copyBegins_110 : decode c_Mo_copyBegins 110 = .ok (.iaload, 1) := by decide +kernel
theorem d_Mo_copyBegins_111 : decode c_Mo_copyBegins 111 = .ok (.invokevirtual 219, 3) := by decide +kernel
theorem d_Mo_copyBegins_114 : decode c_Mo_copyBegins 114 = .ok (.iinc 2 1, 3) := by decide +kernel
theorem d_Mo_copyBegins_117 : decode c_Mo_copyBegins 117 = .ok (.goto (-86), 3) := by decide +kernel
theorem d_Mo_copyBegins_120 : decode c_Mo_copyBegins 120 = .ok (.return_, 1) := by decide +kernel
theorem d_Mo_putsIn_0 : decode c_Mo_putsIn 0 = .ok (.aload_n 0, 1) := by decide +kernel
theorem d_Mo_putsIn_1 : decode c_Mo_putsIn 1 = .ok (.getfield 63, 3) := by decide +kernel
theorem d_Mo_putsIn_4 : decode c_Mo_putsIn 4 = .ok (.iload_n 1, 1) := by decide +kernel
theorem d_Mo_putsIn_5 : decode c_Mo_putsIn 5 = .ok (.iload_n 2, 1) := by decide +kernel
theorem d_Mo_putsIn_6 : decode c_Mo_putsIn 6 = .ok (.iastore, 1) := by decide +kernel
theorem d_Mo_putsIn_7 : decode c_Mo_putsIn 7 = .ok (.aload_n 0, 1) := by decide +kernel
theorem d_Mo_putsIn_8 : decode c_Mo_putsIn 8 = .ok (.getfield 75, 3) := by decide +kernel
theorem d_Mo_putsIn_11 : decode c_Mo_putsIn 11 = .ok (.iload_n 2, 1) := by decide +kernel
theorem d_Mo_putsIn_12 : decode c_Mo_putsIn 12 = .ok (.iaload, 1) := by decide +kernel
theorem d_Mo_putsIn_13 : decode c_Mo_putsIn 13 = .ok (.istore 4, 2) := by decide +kernel
theorem d_Mo_putsIn_15 : decode c_Mo_putsIn 15 = .ok (.iload 4, 2) := by decide +kernel
theorem d_Mo_putsIn_17 : decode c_Mo_putsIn 17 = .ok (.iload_n 3, 1) := by decide +kernel
theorem d_Mo_putsIn_18 : decode c_Mo_putsIn 18 = .ok (.if_icmp .le 35, 3) := by decide +kernel
theorem d_Mo_putsIn_21 : decode c_Mo_putsIn 21 = .ok (.aload_n 0, 1) := by decide +kernel
theorem d_Mo_putsIn_22 : decode c_Mo_putsIn 22 = .ok (.getfield 72, 3) := by decide +kernel
theorem d_Mo_putsIn_25 : decode c_Mo_putsIn 25 = .ok (.bipush 49, 2) := by decide +kernel
theorem d_Mo_putsIn_27 : decode c_Mo_putsIn 27 = .ok (.iload_n 2, 1) := by decide +kernel
theorem d_Mo_putsIn_28 : decode c_Mo_putsIn 28 = .ok (.imul, 1) := by decide +kernel
theorem d_Mo_putsIn_29 : decode c_Mo_putsIn 29 = .ok (.iload 4, 2) := by decide +kernel
theorem d_Mo_putsIn_31 : decode c_Mo_putsIn 31 = .ok (.iadd, 1) := by decide +kernel
theorem d_Mo_putsIn_32 : decode c_Mo_putsIn 32 = .ok (.aload_n 0, 1) := by decide +kernel
theorem d_Mo_putsIn_33 : decode c_Mo_putsIn 33 = .ok (.getfield 72, 3) := by decide +kernel
theorem d_Mo_putsIn_36 : decode c_Mo_putsIn 36 = .ok (.bipush 49, 2) := by decide +kernel
theorem d_Mo_putsIn_38 : decode c_Mo_putsIn 38 = .ok (.iload_n 2, 1) := by decide +kernel
theorem d_Mo_putsIn_39 : decode c_Mo_putsIn 39 = .ok (.imul, 1) := by decide +kernel
theorem d_Mo_putsIn_40 : decode c_Mo_putsIn 40 = .ok (.iload 4, 2) := by decide +kernel
theorem d_Mo_putsIn_42 : decode c_Mo_putsIn 42 = .ok (.iadd, 1) := by decide +kernel
theorem d_Mo_putsIn_43 : decode c_Mo_putsIn 43 = .ok (.iconst 1, 1) := by decide +kernel
theorem d_Mo_putsIn_44 : decode c_Mo_putsIn 44 = .ok (.isub, 1) := by decide +kernel
theorem d_Mo_putsIn_45 : decode c_Mo_putsIn 45 = .ok (.iaload, 1) := by decide +kernel
theorem d_Mo_putsIn_46 : decode c_Mo_putsIn 46 = .ok (.iastore, 1) := by decide +kernel
theorem d_Mo_putsIn_47 : decode c_Mo_putsIn 47 = .ok (.iinc 4 (-1), 3) := by decide +kernel
theorem d_Mo_putsIn_50 : decode c_Mo_putsIn 50 = .ok (.goto (-35), 3) := by decide +kernel
theorem d_Mo_putsIn_53 : decode c_Mo_putsIn 53 = .ok (.aload_n 0, 1) := by decide +kernel
theorem d_Mo_putsIn_54 : decode c_Mo_putsIn 54 = .ok (.getfield 72, 3) := by decide +kernel
theorem d_Mo_putsIn_57 : decode c_Mo_putsIn 57 = .ok (.bipush 49, 2) := by decide +kernel
theorem d_Mo_putsIn_59 : decode c_Mo_putsIn 59 = .ok (.iload_n 2, 1) := by decide +kernel
theorem d_Mo_putsIn_60 : decode c_Mo_putsIn 60 = .ok (.imul, 1) := by decide +kernel
theorem d_Mo_putsIn_61 : decode c_Mo_putsIn 61 = .ok (.iload_n 3, 1) := by decide +kernel
theorem d_Mo_putsIn_62 : decode c_Mo_putsIn 62 = .ok (.iadd, 1) := by decide +kernel
theorem d_Mo_putsIn_63 : decode c_Mo_putsIn 63 = .ok (.iload_n 1, 1) := by decide +kernel
theorem d_Mo_putsIn_64 : decode c_Mo_putsIn 64 = .ok (.iastore, 1) := by decide +kernel
theorem d_Mo_putsIn_65 : decode c_Mo_putsIn 65 = .ok (.aload_n 0, 1) := by decide +kernel
theorem d_Mo_putsIn_66 : decode c_Mo_putsIn 66 = .ok (.getfield 75, 3) := by decide +kernel
theorem d_Mo_putsIn_69 : decode c_Mo_putsIn 69 = .ok (.iload_n 2, 1) := by decide +kernel
theorem d_Mo_putsIn_70 : decode c_Mo_putsIn 70 = .ok (.dup2, 1) := by decide +kernel
theorem d_Mo_putsIn_71 : decode c_Mo_putsIn 71 = .ok (.iaload, 1) := by decide +kernel
theorem d_Mo_putsIn_72 : decode c_Mo_putsIn 72 = .ok (.iconst 1, 1) := by decide +kernel
theorem d_Mo_putsIn_73 : decode c_Mo_putsIn 73 = .ok (.iadd, 1) := by decide +kernel
theorem d_Mo_putsIn_74 : decode c_Mo_putsIn 74 = .ok (.iastore, 1) := by decide +kernel
theorem d_Mo_putsIn_75 : decode c_Mo_putsIn 75 = .ok (.return_, 1) := by decide +kernel
theorem d_Mo_placeIn_0 : decode c_Mo_placeIn 0 = .ok (.aload_n 0, 1) := by decide +kernel
theorem d_Mo_placeIn_1 : decode c_Mo_placeIn 1 = .ok (.getfield 63, 3) := by decide +kernel
theorem d_Mo_placeIn_4 : decode c_Mo_placeIn 4 = .ok (.iload_n 1, 1) := by decide +kernel
theorem d_Mo_placeIn_5 : decode c_Mo_placeIn 5 = .ok (.iaload, 1) := by decide +kernel
theorem d_Mo_placeIn_6 : decode c_Mo_placeIn 6 = .ok (.istore_n 2, 1) := by decide +kernel
theorem d_Mo_placeIn_7 : decode c_Mo_placeIn 7 = .ok (.iconst 0, 1) := by decide +kernel
theorem d_Mo_placeIn_8 : decode c_Mo_placeIn 8 = .ok (.istore_n 3, 1) := by decide +kernel
theorem d_Mo_placeIn_9 : decode c_Mo_placeIn 9 = .ok (.aload_n 0, 1) := by decide +kernel
theorem d_Mo_placeIn_10 : decode c_Mo_placeIn 10 = .ok (.getfield 72, 3) := by decide +kernel
theorem d_Mo_placeIn_13 : decode c_Mo_placeIn 13 = .ok (.bipush 49, 2) := by decide +kernel
theorem d_Mo_placeIn_15 : decode c_Mo_placeIn 15 = .ok (.iload_n 2, 1) := by decide +kernel
theorem d_Mo_placeIn_16 : decode c_Mo_placeIn 16 = .ok (.imul, 1) := by decide +kernel
theorem d_Mo_placeIn_17 : decode c_Mo_placeIn 17 = .ok (.iload_n 3, 1) := by decide +kernel
theorem d_Mo_placeIn_18 : decode c_Mo_placeIn 18 = .ok (.iadd, 1) := by decide +kernel
theorem d_Mo_placeIn_19 : decode c_Mo_placeIn 19 = .ok (.iaload, 1) := by decide +kernel
theorem d_Mo_placeIn_20 : decode c_Mo_placeIn 20 = .ok (.iload_n 1, 1) := by decide +kernel
theorem d_Mo_placeIn_21 : decode c_Mo_placeIn 21 = .ok (.if_icmp .eq 9, 3) := by decide +kernel
theorem d_Mo_placeIn_24 : decode c_Mo_placeIn 24 = .ok (.iinc 3 1, 3) := by decide +kernel
theorem d_Mo_placeIn_27 : decode c_Mo_placeIn 27 = .ok (.goto (-18), 3) := by decide +kernel
theorem d_Mo_placeIn_30 : decode c_Mo_placeIn 30 = .ok (.iload_n 3, 1) := by decide +kernel
theorem d_Mo_placeIn_31 : decode c_Mo_placeIn 31 = .ok (.ireturn, 1) := by decide +kernel
theorem d_Mo_takesOut_0 : decode c_Mo_takesOut 0 = .ok (.aload_n 0, 1) := by decide +kernel
theorem d_Mo_takesOut_1 : decode c_Mo_takesOut 1 = .ok (.getfield 63, 3) := by decide +kernel
theorem d_Mo_takesOut_4 : decode c_Mo_takesOut 4 = .ok (.iload_n 1, 1) := by decide +kernel
theorem d_Mo_takesOut_5 : decode c_Mo_takesOut 5 = .ok (.iaload, 1) := by decide +kernel
theorem d_Mo_takesOut_6 : decode c_Mo_takesOut 6 = .ok (.istore_n 2, 1) := by decide +kernel
theorem d_Mo_takesOut_7 : decode c_Mo_takesOut 7 = .ok (.aload_n 0, 1) := by decide +kernel
theorem d_Mo_takesOut_8 : decode c_Mo_takesOut 8 = .ok (.getfield 75, 3) := by decide +kernel
theorem d_Mo_takesOut_11 : decode c_Mo_takesOut 11 = .ok (.iload_n 2, 1) := by decide +kernel
theorem d_Mo_takesOut_12 : decode c_Mo_takesOut 12 = .ok (.dup2, 1) := by decide +kernel
theorem d_Mo_takesOut_13 : decode c_Mo_takesOut 13 = .ok (.iaload, 1) := by decide +kernel
theorem d_Mo_takesOut_14 : decode c_Mo_takesOut 14 = .ok (.iconst 1, 1) := by decide +kernel
theorem d_Mo_takesOut_15 : decode c_Mo_takesOut 15 = .ok (.isub, 1) := by decide +kernel
theorem d_Mo_takesOut_16 : decode c_Mo_takesOut 16 = .ok (.iastore, 1) := by decide +kernel
theorem d_Mo_takesOut_17 : decode c_Mo_takesOut 17 = .ok (.aload_n 0, 1) := by decide +kernel
theorem d_Mo_takesOut_18 : decode c_Mo_takesOut 18 = .ok (.iload_n 1, 1) := by decide +kernel
theorem d_Mo_takesOut_19 : decode c_Mo_takesOut 19 = .ok (.invokevirtual 222, 3) := by decide +kernel
theorem d_Mo_takesOut_22 : decode c_Mo_takesOut 22 = .ok (.istore_n 3, 1) := by decide +kernel
theorem d_Mo_takesOut_23 : decode c_Mo_takesOut 23 = .ok (.iload_n 3, 1) := by decide +kernel
theorem d_Mo_takesOut_24 : decode c_Mo_takesOut 24 = .ok (.aload_n 0, 1) := by decide +kernel
theorem d_Mo_takesOut_25 : decode c_Mo_takesOut 25 = .ok (.getfield 75, 3) := by decide +kernel
theorem d_Mo_takesOut_28 : decode c_Mo_takesOut 28 = .ok (.iload_n 2, 1) := by decide +kernel
theorem d_Mo_takesOut_29 : decode c_Mo_takesOut 29 = .ok (.iaload, 1) := by decide +kernel
theorem d_Mo_takesOut_30 : decode c_Mo_takesOut 30 = .ok (.if_icmp .ge 33, 3) := by decide +kernel
theorem d_Mo_takesOut_33 : decode c_Mo_takesOut 33 = .ok (.aload_n 0, 1) := by decide +kernel
theorem d_Mo_takesOut_34 : decode c_Mo_takesOut 34 = .ok (.getfield 72, 3) := by decide +kernel
theorem d_Mo_takesOut_37 : decode c_Mo_takesOut 37 = .ok (.bipush 49, 2) := by decide +kernel
theorem d_Mo_takesOut_39 : decode c_Mo_takesOut 39 = .ok (.iload_n 2, 1) := by decide +kernel
theorem d_Mo_takesOut_40 : decode c_Mo_takesOut 40 = .ok (.imul, 1) := by decide +kernel
theorem d_Mo_takesOut_41 : decode c_Mo_takesOut 41 = .ok (.iload_n 3, 1) := by decide +kernel
theorem d_Mo_takesOut_42 : decode c_Mo_takesOut 42 = .ok (.iadd, 1) := by decide +kernel
theorem d_Mo_takesOut_43 : decode c_Mo_takesOut 43 = .ok (.aload_n 0, 1) := by decide +kernel
theorem d_Mo_takesOut_44 : decode c_Mo_takesOut 44 = .ok (.getfield 72, 3) := by decide +kernel
theorem d_Mo_takesOut_47 : decode c_Mo_takesOut 47 = .ok (.bipush 49, 2) := by decide +kernel
theorem d_Mo_takesOut_49 : decode c_Mo_takesOut 49 = .ok (.iload_n 2, 1) := by decide +kernel
theorem d_Mo_takesOut_50 : decode c_Mo_takesOut 50 = .ok (.imul, 1) := by decide +kernel
theorem d_Mo_takesOut_51 : decode c_Mo_takesOut 51 = .ok (.iload_n 3, 1) := by decide +kernel
theorem d_Mo_takesOut_52 : decode c_Mo_takesOut 52 = .ok (.iadd, 1) := by decide +kernel
theorem d_Mo_takesOut_53 : decode c_Mo_takesOut 53 = .ok (.iconst 1, 1) := by decide +kernel
theorem d_Mo_takesOut_54 : decode c_Mo_takesOut 54 = .ok (.iadd, 1) := by decide +kernel
theorem d_Mo_takesOut_55 : decode c_Mo_takesOut 55 = .ok (.iaload, 1) := by decide +kernel
theorem d_Mo_takesOut_56 : decode c_Mo_takesOut 56 = .ok (.iastore, 1) := by decide +kernel
theorem d_Mo_takesOut_57 : decode c_Mo_takesOut 57 = .ok (.iinc 3 1, 3) := by decide +kernel
theorem d_Mo_takesOut_60 : decode c_Mo_takesOut 60 = .ok (.goto (-37), 3) := by decide +kernel
theorem d_Mo_takesOut_63 : decode c_Mo_takesOut 63 = .ok (.aload_n 0, 1) := by decide +kernel
theorem d_Mo_takesOut_64 : decode c_Mo_takesOut 64 = .ok (.getfield 63, 3) := by decide +kernel
theorem d_Mo_takesOut_67 : decode c_Mo_takesOut 67 = .ok (.iload_n 1, 1) := by decide +kernel
theorem d_Mo_takesOut_68 : decode c_Mo_takesOut 68 = .ok (.bipush (-2), 2) := by decide +kernel
theorem d_Mo_takesOut_70 : decode c_Mo_takesOut 70 = .ok (.iastore, 1) := by decide +kernel
theorem d_Mo_takesOut_71 : decode c_Mo_takesOut 71 = .ok (.return_, 1) := by decide +kernel
theorem d_Mo_notes_0 : decode c_Mo_notes 0 = .ok (.bipush 6, 2) := by decide +kernel
theorem d_Mo_notes_2 : decode c_Mo_notes 2 = .ok (.aload_n 0, 1) := by decide +kernel
theorem d_Mo_notes_3 : decode c_Mo_notes 3 = .ok (.getfield 225, 3) := by decide +kernel
theorem d_Mo_notes_6 : decode c_Mo_notes 6 = .ok (.imul, 1) := by decide +kernel
theorem d_Mo_notes_7 : decode c_Mo_notes 7 = .ok (.istore 7, 2) := by decide +kernel
theorem d_Mo_notes_9 : decode c_Mo_notes 9 = .ok (.aload_n 0, 1) := by decide +kernel
theorem d_Mo_notes_10 : decode c_Mo_notes 10 = .ok (.getfield 78, 3) := by decide +kernel
theorem d_Mo_notes_13 : decode c_Mo_notes 13 = .ok (.iload 7, 2) := by decide +kernel
theorem d_Mo_notes_15 : decode c_Mo_notes 15 = .ok (.iload_n 1, 1) := by decide +kernel
theorem d_Mo_notes_16 : decode c_Mo_notes 16 = .ok (.iastore, 1) := by decide +kernel
theorem d_Mo_notes_17 : decode c_Mo_notes 17 = .ok (.aload_n 0, 1) := by decide +kernel
theorem d_Mo_notes_18 : decode c_Mo_notes 18 = .ok (.getfield 78, 3) := by decide +kernel
theorem d_Mo_notes_21 : decode c_Mo_notes 21 = .ok (.iload 7, 2) := by decide +kernel
theorem d_Mo_notes_23 : decode c_Mo_notes 23 = .ok (.iconst 1, 1) := by decide +kernel
theorem d_Mo_notes_24 : decode c_Mo_notes 24 = .ok (.iadd, 1) := by decide +kernel
theorem d_Mo_notes_25 : decode c_Mo_notes 25 = .ok (.iload_n 2, 1) := by decide +kernel
theorem d_Mo_notes_26 : decode c_Mo_notes 26 = .ok (.invokestatic 228, 3) := by decide +kernel
theorem d_Mo_notes_29 : decode c_Mo_notes 29 = .ok (.iastore, 1) := by decide +kernel
theorem d_Mo_notes_30 : decode c_Mo_notes 30 = .ok (.aload_n 0, 1) := by decide +kernel
theorem d_Mo_notes_31 : decode c_Mo_notes 31 = .ok (.getfield 78, 3) := by decide +kernel
theorem d_Mo_notes_34 : decode c_Mo_notes 34 = .ok (.iload 7, 2) := by decide +kernel
theorem d_Mo_notes_36 : decode c_Mo_notes 36 = .ok (.iconst 2, 1) := by decide +kernel
theorem d_Mo_notes_37 : decode c_Mo_notes 37 = .ok (.iadd, 1) := by decide +kernel
theorem d_Mo_notes_38 : decode c_Mo_notes 38 = .ok (.iload_n 3, 1) := by decide +kernel
theorem d_Mo_notes_39 : decode c_Mo_notes 39 = .ok (.iastore, 1) := by decide +kernel
theorem d_Mo_notes_40 : decode c_Mo_notes 40 = .ok (.aload_n 0, 1) := by decide +kernel
theorem d_Mo_notes_41 : decode c_Mo_notes 41 = .ok (.getfield 78, 3) := by decide +kernel
theorem d_Mo_notes_44 : decode c_Mo_notes 44 = .ok (.iload 7, 2) := by decide +kernel
theorem d_Mo_notes_46 : decode c_Mo_notes 46 = .ok (.iconst 3, 1) := by decide +kernel
theorem d_Mo_notes_47 : decode c_Mo_notes 47 = .ok (.iadd, 1) := by decide +kernel
theorem d_Mo_notes_48 : decode c_Mo_notes 48 = .ok (.iload 4, 2) := by decide +kernel
theorem d_Mo_notes_50 : decode c_Mo_notes 50 = .ok (.iastore, 1) := by decide +kernel
theorem d_Mo_notes_51 : decode c_Mo_notes 51 = .ok (.aload_n 0, 1) := by decide +kernel
theorem d_Mo_notes_52 : decode c_Mo_notes 52 = .ok (.getfield 78, 3) := by decide +kernel
theorem d_Mo_notes_55 : decode c_Mo_notes 55 = .ok (.iload 7, 2) := by decide +kernel
theorem d_Mo_notes_57 : decode c_Mo_notes 57 = .ok (.iconst 4, 1) := by decide +kernel
theorem d_Mo_notes_58 : decode c_Mo_notes 58 = .ok (.iadd, 1) := by decide +kernel
theorem d_Mo_notes_59 : decode c_Mo_notes 59 = .ok (.iload 5, 2) := by decide +kernel
theorem d_Mo_notes_61 : decode c_Mo_notes 61 = .ok (.iastore, 1) := by decide +kernel
theorem d_Mo_notes_62 : decode c_Mo_notes 62 = .ok (.aload_n 0, 1) := by decide +kernel
theorem d_Mo_notes_63 : decode c_Mo_notes 63 = .ok (.getfield 78, 3) := by decide +kernel
theorem d_Mo_notes_66 : decode c_Mo_notes 66 = .ok (.iload 7, 2) := by decide +kernel
theorem d_Mo_notes_68 : decode c_Mo_notes 68 = .ok (.iconst 5, 1) := by decide +kernel
theorem d_Mo_notes_69 : decode c_Mo_notes 69 = .ok (.iadd, 1) := by decide +kernel
theorem d_Mo_notes_70 : decode c_Mo_notes 70 = .ok (.iload 6, 2) := by decide +kernel
theorem d_Mo_notes_72 : decode c_Mo_notes 72 = .ok (.iastore, 1) := by decide +kernel
theorem d_Mo_notes_73 : decode c_Mo_notes 73 = .ok (.aload_n 0, 1) := by decide +kernel
theorem d_Mo_notes_74 : decode c_Mo_notes 74 = .ok (.dup, 1) := by decide +kernel
theorem d_Mo_notes_75 : decode c_Mo_notes 75 = .ok (.getfield 225, 3) := by decide +kernel
theorem d_Mo_notes_78 : decode c_Mo_notes 78 = .ok (.iconst 1, 1) := by decide +kernel
theorem d_Mo_notes_79 : decode c_Mo_notes 79 = .ok (.iadd, 1) := by decide +kernel
theorem d_Mo_notes_80 : decode c_Mo_notes 80 = .ok (.putfield 225, 3) := by decide +kernel
theorem d_Mo_notes_83 : decode c_Mo_notes 83 = .ok (.return_, 1) := by decide +kernel
theorem d_Mo_parentOf_0 : decode c_Mo_parentOf 0 = .ok (.iload_n 1, 1) := by decide +kernel
theorem d_Mo_parentOf_1 : decode c_Mo_parentOf 1 = .ok (.ifCond .ne 8, 3) := by decide +kernel
theorem d_Mo_parentOf_4 : decode c_Mo_parentOf 4 = .ok (.bipush 24, 2) := by decide +kernel
theorem d_Mo_parentOf_6 : decode c_Mo_parentOf 6 = .ok (.goto 13, 3) := by decide +kernel
theorem d_Mo_parentOf_9 : decode c_Mo_parentOf 9 = .ok (.aload_n 0, 1) := by decide +kernel
theorem d_Mo_parentOf_10 : decode c_Mo_parentOf 10 = .ok (.getfield 19, 3) := by decide +kernel
theorem d_Mo_parentOf_13 : decode c_Mo_parentOf 13 = .ok (.iconst 1, 1) := by decide +kernel
theorem d_Mo_parentOf_14 : decode c_Mo_parentOf 14 = .ok (.iload_n 1, 1) := by decide +kernel
theorem d_Mo_parentOf_15 : decode c_Mo_parentOf 15 = .ok (.invokestatic 114, 3) := by decide +kernel
theorem d_Mo_parentOf_18 : decode c_Mo_parentOf 18 = .ok (.iaload, 1) := by decide +kernel
theorem d_Mo_parentOf_19 : decode c_Mo_parentOf 19 = .ok (.ireturn, 1) := by decide +kernel
theorem d_Mo_placeFor_0 : decode c_Mo_placeFor 0 = .ok (.iconst (-1), 1) := by decide +kernel
theorem d_Mo_placeFor_1 : decode c_Mo_placeFor 1 = .ok (.istore_n 2, 1) := by decide +kernel
theorem d_Mo_placeFor_2 : decode c_Mo_placeFor 2 = .ok (.iconst 0, 1) := by decide +kernel
theorem d_Mo_placeFor_3 : decode c_Mo_placeFor 3 = .ok (.istore_n 3, 1) := by decide +kernel
theorem d_Mo_placeFor_4 : decode c_Mo_placeFor 4 = .ok (.iload_n 3, 1) := by decide +kernel
theorem d_Mo_placeFor_5 : decode c_Mo_placeFor 5 = .ok (.iload_n 1, 1) := by decide +kernel
theorem d_Mo_placeFor_6 : decode c_Mo_placeFor 6 = .ok (.if_icmp .ge 37, 3) := by decide +kernel
theorem d_Mo_placeFor_9 : decode c_Mo_placeFor 9 = .ok (.aload_n 0, 1) := by decide +kernel
theorem d_Mo_placeFor_10 : decode c_Mo_placeFor 10 = .ok (.iload_n 3, 1) := by decide +kernel
theorem d_Mo_placeFor_11 : decode c_Mo_placeFor 11 = .ok (.invokevirtual 231, 3) := by decide +kernel
theorem d_Mo_placeFor_14 : decode c_Mo_placeFor 14 = .ok (.aload_n 0, 1) := by decide +kernel
theorem d_Mo_placeFor_15 : decode c_Mo_placeFor 15 = .ok (.iload_n 1, 1) := by decide +kernel
theorem d_Mo_placeFor_16 : decode c_Mo_placeFor 16 = .ok (.invokevirtual 231, 3) := by decide +kernel
theorem d_Mo_placeFor_19 : decode c_Mo_placeFor 19 = .ok (.if_icmp .ne 16, 3) := by decide +kernel
theorem d_Mo_placeFor_22 : decode c_Mo_placeFor 22 = .ok (.aload_n 0, 1) := by decide +kernel
theorem d_Mo_placeFor_23 : decode c_Mo_placeFor 23 = .ok (.getfield 84, 3) := by decide +kernel
theorem d_Mo_placeFor_26 : decode c_Mo_placeFor 26 = .ok (.iload_n 3, 1) := by decide +kernel
theorem d_Mo_placeFor_27 : decode c_Mo_placeFor 27 = .ok (.baload, 1) := by decide +kernel
theorem d_Mo_placeFor_28 : decode c_Mo_placeFor 28 = .ok (.ifCond .eq 7, 3) := by decide +kernel
theorem d_Mo_placeFor_31 : decode c_Mo_placeFor 31 = .ok (.iload_n 3, 1) := by decide +kernel
theorem d_Mo_placeFor_32 : decode c_Mo_placeFor 32 = .ok (.goto 4, 3) := by decide +kernel
theorem d_Mo_placeFor_35 : decode c_Mo_placeFor 35 = .ok (.iload_n 2, 1) := by decide +kernel
theorem d_Mo_placeFor_36 : decode c_Mo_placeFor 36 = .ok (.istore_n 2, 1) := by decide +kernel
theorem d_Mo_placeFor_37 : decode c_Mo_placeFor 37 = .ok (.iinc 3 1, 3) := by decide +kernel
theorem d_Mo_placeFor_40 : decode c_Mo_placeFor 40 = .ok (.goto (-36), 3) := by decide +kernel
theorem d_Mo_placeFor_43 : decode c_Mo_placeFor 43 = .ok (.iload_n 2, 1) := by decide +kernel
theorem d_Mo_placeFor_44 : decode c_Mo_placeFor 44 = .ok (.ifCond .ge 7, 3) := by decide +kernel
theorem d_Mo_placeFor_47 : decode c_Mo_placeFor 47 = .ok (.iconst 0, 1) := by decide +kernel
theorem d_Mo_placeFor_48 : decode c_Mo_placeFor 48 = .ok (.goto 15, 3) := by decide +kernel
theorem d_Mo_placeFor_51 : decode c_Mo_placeFor 51 = .ok (.iconst 1, 1) := by decide +kernel
theorem d_Mo_placeFor_52 : decode c_Mo_placeFor 52 = .ok (.aload_n 0, 1) := by decide +kernel
theorem d_Mo_placeFor_53 : decode c_Mo_placeFor 53 = .ok (.aload_n 0, 1) := by decide +kernel
theorem d_Mo_placeFor_54 : decode c_Mo_placeFor 54 = .ok (.getfield 81, 3) := by decide +kernel
theorem d_Mo_placeFor_57 : decode c_Mo_placeFor 57 = .ok (.iload_n 2, 1) := by decide +kernel
theorem d_Mo_placeFor_58 : decode c_Mo_placeFor 58 = .ok (.iaload, 1) := by decide +kernel
theorem d_Mo_placeFor_59 : decode c_Mo_placeFor 59 = .ok (.invokevirtual 222, 3) := by decide +kernel
theorem d_Mo_placeFor_62 : decode c_Mo_placeFor 62 = .ok (.iadd, 1) := by decide +kernel
theorem d_Mo_placeFor_63 : decode c_Mo_placeFor 63 = .ok (.ireturn, 1) := by decide +kernel
theorem d_Mo_moves_0 : decode c_Mo_moves 0 = .ok (.aload_n 0, 1) := by decide +kernel
theorem d_Mo_moves_1 : decode c_Mo_moves 1 = .ok (.getfield 81, 3) := by decide +kernel
theorem d_Mo_moves_4 : decode c_Mo_moves 4 = .ok (.iload_n 1, 1) := by decide +kernel
theorem d_Mo_moves_5 : decode c_Mo_moves 5 = .ok (.iaload, 1) := by decide +kernel
theorem d_Mo_moves_6 : decode c_Mo_moves 6 = .ok (.istore_n 2, 1) := by decide +kernel
theorem d_Mo_moves_7 : decode c_Mo_moves 7 = .ok (.aload_n 0, 1) := by decide +kernel
theorem d_Mo_moves_8 : decode c_Mo_moves 8 = .ok (.getfield 81, 3) := by decide +kernel
theorem d_Mo_moves_11 : decode c_Mo_moves 11 = .ok (.aload_n 0, 1) := by decide +kernel
theorem d_Mo_moves_12 : decode c_Mo_moves 12 = .ok (.iload_n 1, 1) := by decide +kernel
theorem d_Mo_moves_13 : decode c_Mo_moves 13 = .ok (.invokevirtual 231, 3) := by decide +kernel
theorem d_Mo_moves_16 : decode c_Mo_moves 16 = .ok (.iaload, 1) := by decide +kernel
theorem d_Mo_moves_17 : decode c_Mo_moves 17 = .ok (.istore_n 3, 1) := by decide +kernel
theorem d_Mo_moves_18 : decode c_Mo_moves 18 = .ok (.aload_n 0, 1) := by decide +kernel
theorem d_Mo_moves_19 : decode c_Mo_moves 19 = .ok (.iload_n 2, 1) := by decide +kernel
theorem d_Mo_moves_20 : decode c_Mo_moves 20 = .ok (.invokevirtual 234, 3) := by decide +kernel
theorem d_Mo_moves_23 : decode c_Mo_moves 23 = .ok (.aload_n 0, 1) := by decide +kernel
theorem d_Mo_moves_24 : decode c_Mo_moves 24 = .ok (.iload_n 1, 1) := by decide +kernel
theorem d_Mo_moves_25 : decode c_Mo_moves 25 = .ok (.invokevirtual 237, 3) := by decide +kernel
theorem d_Mo_moves_28 : decode c_Mo_moves 28 = .ok (.istore 4, 2) := by decide +kernel
theorem d_Mo_moves_30 : decode c_Mo_moves 30 = .ok (.aload_n 0, 1) := by decide +kernel
theorem d_Mo_moves_31 : decode c_Mo_moves 31 = .ok (.iload_n 2, 1) := by decide +kernel
theorem d_Mo_moves_32 : decode c_Mo_moves 32 = .ok (.iload_n 3, 1) := by decide +kernel
theorem d_Mo_moves_33 : decode c_Mo_moves 33 = .ok (.iload 4, 2) := by decide +kernel
theorem d_Mo_moves_35 : decode c_Mo_moves 35 = .ok (.invokevirtual 219, 3) := by decide +kernel
theorem d_Mo_moves_38 : decode c_Mo_moves 38 = .ok (.aload_n 0, 1) := by decide +kernel
theorem d_Mo_moves_39 : decode c_Mo_moves 39 = .ok (.getfield 84, 3) := by decide +kernel
theorem d_Mo_moves_42 : decode c_Mo_moves 42 = .ok (.iload_n 1, 1) := by decide +kernel
theorem d_Mo_moves_43 : decode c_Mo_moves 43 = .ok (.iconst 1, 1) := by decide +kernel
theorem d_Mo_moves_44 : decode c_Mo_moves 44 = .ok (.bastore, 1) := by decide +kernel
theorem d_Mo_moves_45 : decode c_Mo_moves 45 = .ok (.aload_n 0, 1) := by decide +kernel
theorem d_Mo_moves_46 : decode c_Mo_moves 46 = .ok (.iconst 2, 1) := by decide +kernel
theorem d_Mo_moves_47 : decode c_Mo_moves 47 = .ok (.iload_n 2, 1) := by decide +kernel
theorem d_Mo_moves_48 : decode c_Mo_moves 48 = .ok (.iload_n 3, 1) := by decide +kernel
theorem d_Mo_moves_49 : decode c_Mo_moves 49 = .ok (.invokestatic 228, 3) := by decide +kernel
theorem d_Mo_moves_52 : decode c_Mo_moves 52 = .ok (.iload 4, 2) := by decide +kernel
theorem d_Mo_moves_54 : decode c_Mo_moves 54 = .ok (.bipush (-15), 2) := by decide +kernel
theorem d_Mo_moves_56 : decode c_Mo_moves 56 = .ok (.bipush (-15), 2) := by decide +kernel
theorem d_Mo_moves_58 : decode c_Mo_moves 58 = .ok (.invokevirtual 240, 3) := by decide +kernel
theorem d_Mo_moves_61 : decode c_Mo_moves 61 = .ok (.return_, 1) := by decide +kernel
theorem d_Mo_findRow_0 : decode c_Mo_findRow 0 = .ok (.aload_n 0, 1) := by decide +kernel
theorem d_Mo_findRow_1 : decode c_Mo_findRow 1 = .ok (.iconst 0, 1) := by decide +kernel
theorem d_Mo_findRow_2 : decode c_Mo_findRow 2 = .ok (.putfield 244, 3) := by decide +kernel
theorem d_Mo_findRow_5 : decode c_Mo_findRow 5 = .ok (.iconst 0, 1) := by decide +kernel
theorem d_Mo_findRow_6 : decode c_Mo_findRow 6 = .ok (.istore_n 2, 1) := by decide +kernel
theorem d_Mo_findRow_7 : decode c_Mo_findRow 7 = .ok (.iload_n 2, 1) := by decide +kernel
theorem d_Mo_findRow_8 : decode c_Mo_findRow 8 = .ok (.aload_n 0, 1) := by decide +kernel
theorem d_Mo_findRow_9 : decode c_Mo_findRow 9 = .ok (.getfield 7, 3) := by decide +kernel
theorem d_Mo_findRow_12 : decode c_Mo_findRow 12 = .ok (.iconst 1, 1) := by decide +kernel
theorem d_Mo_findRow_13 : decode c_Mo_findRow 13 = .ok (.iaload, 1) := by decide +kernel
theorem d_Mo_findRow_14 : decode c_Mo_findRow 14 = .ok (.if_icmp .ge 67, 3) := by decide +kernel
theorem d_Mo_findRow_17 : decode c_Mo_findRow 17 = .ok (.aload_n 0, 1) := by decide +kernel
theorem d_Mo_findRow_18 : decode c_Mo_findRow 18 = .ok (.iload_n 2, 1) := by decide +kernel
theorem d_Mo_findRow_19 : decode c_Mo_findRow 19 = .ok (.invokevirtual 231, 3) := by decide +kernel
theorem d_Mo_findRow_22 : decode c_Mo_findRow 22 = .ok (.iload_n 1, 1) := by decide +kernel
theorem d_Mo_findRow_23 : decode c_Mo_findRow 23 = .ok (.if_icmp .ne 52, 3) := by decide +kernel
theorem d_Mo_findRow_26 : decode c_Mo_findRow 26 = .ok (.aload_n 0, 1) := by decide +kernel
theorem d_Mo_findRow_27 : decode c_Mo_findRow 27 = .ok (.getfield 81, 3) := by decide +kernel
theorem d_Mo_findRow_30 : decode c_Mo_findRow 30 = .ok (.iload_n 2, 1) := by decide +kernel
theorem d_Mo_findRow_31 : decode c_Mo_findRow 31 = .ok (.iaload, 1) := by decide +kernel
theorem d_Mo_findRow_32 : decode c_Mo_findRow 32 = .ok (.ifCond .lt 43, 3) := by decide +kernel
theorem d_Mo_findRow_35 : decode c_Mo_findRow 35 = .ok (.aload_n 0, 1) := by decide +kernel
theorem d_Mo_findRow_36 : decode c_Mo_findRow 36 = .ok (.getfield 63, 3) := by decide +kernel
theorem d_Mo_findRow_39 : decode c_Mo_findRow 39 = .ok (.aload_n 0, 1) := by decide +kernel
theorem d_Mo_findRow_40 : decode c_Mo_findRow 40 = .ok (.getfield 81, 3) := by decide +kernel
theorem d_Mo_findRow_43 : decode c_Mo_findRow 43 = .ok (.iload_n 2, 1) := by decide +kernel
theorem d_Mo_findRow_44 : decode c_Mo_findRow 44 = .ok (.iaload, 1) := by decide +kernel
theorem d_Mo_findRow_45 : decode c_Mo_findRow 45 = .ok (.iaload, 1) := by decide +kernel
theorem d_Mo_findRow_46 : decode c_Mo_findRow 46 = .ok (.aload_n 0, 1) := by decide +kernel
theorem d_Mo_findRow_47 : decode c_Mo_findRow 47 = .ok (.getfield 81, 3) := by decide +kernel
theorem d_Mo_findRow_50 : decode c_Mo_findRow 50 = .ok (.iload_n 1, 1) := by decide +kernel
theorem d_Mo_findRow_51 : decode c_Mo_findRow 51 = .ok (.iaload, 1) := by decide +kernel
theorem d_Mo_findRow_52 : decode c_Mo_findRow 52 = .ok (.if_icmp .ne 23, 3) := by decide +kernel
theorem d_Mo_findRow_55 : decode c_Mo_findRow 55 = .ok (.aload_n 0, 1) := by decide +kernel
theorem d_Mo_findRow_56 : decode c_Mo_findRow 56 = .ok (.getfield 87, 3) := by decide +kernel
theorem d_Mo_findRow_59 : decode c_Mo_findRow 59 = .ok (.aload_n 0, 1) := by decide +kernel
theorem d_Mo_findRow_60 : decode c_Mo_findRow 60 = .ok (.getfield 244, 3) := by decide +kernel
theorem d_Mo_findRow_63 : decode c_Mo_findRow 63 = .ok (.iload_n 2, 1) := by decide +kernel
theorem d_Mo_findRow_64 : decode c_Mo_findRow 64 = .ok (.iastore, 1) := by decide +kernel
theorem d_Mo_findRow_65 : decode c_Mo_findRow 65 = .ok (.aload_n 0, 1) := by decide +kernel
theorem d_Mo_findRow_66 : decode c_Mo_findRow 66 = .ok (.dup, 1) := by decide +kernel
theorem d_Mo_findRow_67 : decode c_Mo_findRow 67 = .ok (.getfield 244, 3) := by decide +kernel
theorem d_Mo_findRow_70 : decode c_Mo_findRow 70 = .ok (.iconst 1, 1) := by decide +kernel
theorem d_Mo_findRow_71 : decode c_Mo_findRow 71 = .ok (.iadd, 1) := by decide +kernel
theorem d_Mo_findRow_72 : decode c_Mo_findRow 72 = .ok (.putfield 244, 3) := by decide +kernel
theorem d_Mo_findRow_75 : decode c_Mo_findRow 75 = .ok (.iinc 2 1, 3) := by decide +kernel
theorem d_Mo_findRow_78 : decode c_Mo_findRow 78 = .ok (.goto (-71), 3) := by decide +kernel
theorem d_Mo_findRow_81 : decode c_Mo_findRow 81 = .ok (.aload_n 0, 1) := by decide +kernel
theorem d_Mo_findRow_82 : decode c_Mo_findRow 82 = .ok (.getfield 244, 3) := by decide +kernel
theorem d_Mo_findRow_85 : decode c_Mo_findRow 85 = .ok (.iconst 1, 1) := by decide +kernel
theorem d_Mo_findRow_86 : decode c_Mo_findRow 86 = .ok (.isub, 1) := by decide +kernel
theorem d_Mo_findRow_87 : decode c_Mo_findRow 87 = .ok (.istore_n 2, 1) := by decide +kernel
theorem d_Mo_findRow_88 : decode c_Mo_findRow 88 = .ok (.iload_n 2, 1) := by decide +kernel
theorem d_Mo_findRow_89 : decode c_Mo_findRow 89 = .ok (.ifCond .lt 117, 3) := by decide +kernel
theorem d_Mo_findRow_92 : decode c_Mo_findRow 92 = .ok (.aload_n 0, 1) := by decide +kernel
theorem d_Mo_findRow_93 : decode c_Mo_findRow 93 = .ok (.getfield 90, 3) := by decide +kernel
theorem d_Mo_findRow_96 : decode c_Mo_findRow 96 = .ok (.iload_n 2, 1) := by decide +kernel
theorem d_Mo_findRow_97 : decode c_Mo_findRow 97 = .ok (.iconst 1, 1) := by decide +kernel
theorem d_Mo_findRow_98 : decode c_Mo_findRow 98 = .ok (.iastore, 1) := by decide +kernel
theorem d_Mo_findRow_99 : decode c_Mo_findRow 99 = .ok (.iload_n 2, 1) := by decide +kernel
theorem d_Mo_findRow_100 : decode c_Mo_findRow 100 = .ok (.iconst 1, 1) := by decide +kernel
theorem d_Mo_findRow_101 : decode c_Mo_findRow 101 = .ok (.iadd, 1) := by decide +kernel
theorem d_Mo_findRow_102 : decode c_Mo_findRow 102 = .ok (.istore_n 3, 1) := by decide +kernel
theorem d_Mo_findRow_103 : decode c_Mo_findRow 103 = .ok (.iload_n 3, 1) := by decide +kernel
theorem d_Mo_findRow_104 : decode c_Mo_findRow 104 = .ok (.aload_n 0, 1) := by decide +kernel
theorem d_Mo_findRow_105 : decode c_Mo_findRow 105 = .ok (.getfield 244, 3) := by decide +kernel
theorem d_Mo_findRow_108 : decode c_Mo_findRow 108 = .ok (.if_icmp .ge 92, 3) := by decide +kernel
theorem d_Mo_findRow_111 : decode c_Mo_findRow 111 = .ok (.aload_n 0, 1) := by decide +kernel
theorem d_Mo_findRow_112 : decode c_Mo_findRow 112 = .ok (.aload_n 0, 1) := by decide +kernel
theorem d_Mo_findRow_113 : decode c_Mo_findRow 113 = .ok (.getfield 81, 3) := by decide +kernel
theorem d_Mo_findRow_116 : decode c_Mo_findRow 116 = .ok (.aload_n 0, 1) := by decide +kernel
theorem d_Mo_findRow_117 : decode c_Mo_findRow 117 = .ok (.getfield 87, 3) := by decide +kernel
theorem d_Mo_findRow_120 : decode c_Mo_findRow 120 = .ok (.iload_n 3, 1) := by decide +kernel
theorem d_Mo_findRow_121 : decode c_Mo_findRow 121 = .ok (.iaload, 1) := by decide +kernel
theorem d_Mo_findRow_122 : decode c_Mo_findRow 122 = .ok (.iaload, 1) := by decide +kernel
theorem d_Mo_findRow_123 : decode c_Mo_findRow 123 = .ok (.invokevirtual 222, 3) := by decide +kernel
theorem d_Mo_findRow_126 : decode c_Mo_findRow 126 = .ok (.aload_n 0, 1) := by decide +kernel
theorem d_Mo_findRow_127 : decode c_Mo_findRow 127 = .ok (.aload_n 0, 1) := by decide +kernel
theorem d_Mo_findRow_128 : decode c_Mo_findRow 128 = .ok (.getfield 81, 3) := by decide +kernel
theorem d_Mo_findRow_131 : decode c_Mo_findRow 131 = .ok (.aload_n 0, 1) := by decide +kernel
theorem d_Mo_findRow_132 : decode c_Mo_findRow 132 = .ok (.getfield 87, 3) := by decide +kernel
theorem d_Mo_findRow_135 : decode c_Mo_findRow 135 = .ok (.iload_n 2, 1) := by decide +kernel
theorem d_Mo_findRow_136 : decode c_Mo_findRow 136 = .ok (.iaload, 1) := by decide +kernel
theorem d_Mo_findRow_137 : decode c_Mo_findRow 137 = .ok (.iaload, 1) := by decide +kernel
theorem d_Mo_findRow_138 : decode c_Mo_findRow 138 = .ok (.invokevirtual 222, 3) := by decide +kernel
theorem d_Mo_findRow_141 : decode c_Mo_findRow 141 = .ok (.if_icmp .le 22, 3) := by decide +kernel
theorem d_Mo_findRow_144 : decode c_Mo_findRow 144 = .ok (.aload_n 0, 1) := by decide +kernel
theorem d_Mo_findRow_145 : decode c_Mo_findRow 145 = .ok (.getfield 90, 3) := by decide +kernel
theorem d_Mo_findRow_148 : decode c_Mo_findRow 148 = .ok (.iload_n 3, 1) := by decide +kernel
theorem d_Mo_findRow_149 : decode c_Mo_findRow 149 = .ok (.iaload, 1) := by decide +kernel
theorem d_Mo_findRow_150 : decode c_Mo_findRow 150 = .ok (.aload_n 0, 1) := by decide +kernel
theorem d_Mo_findRow_151 : decode c_Mo_findRow 151 = .ok (.getfield 90, 3) := by decide +kernel
theorem d_Mo_findRow_154 : decode c_Mo_findRow 154 = .ok (.iload_n 2, 1) := by decide +kernel
theorem d_Mo_findRow_155 : decode c_Mo_findRow 155 = .ok (.iaload, 1) := by decide +kernel
theorem d_Mo_findRow_156 : decode c_Mo_findRow 156 = .ok (.if_icmp .lt 7, 3) := by decide +kernel
theorem d_Mo_findRow_159 : decode c_Mo_findRow 159 = .ok (.iconst 1, 1) := by decide +kernel
theorem d_Mo_findRow_160 : decode c_Mo_findRow 160 = .ok (.goto 4, 3) := by decide +kernel
theorem d_Mo_findRow_163 : decode c_Mo_findRow 163 = .ok (.iconst 0, 1) := by decide +kernel
theorem d_Mo_findRow_164 : decode c_Mo_findRow 164 = .ok (.istore 4, 2) := by decide +kernel
theorem d_Mo_findRow_166 : decode c_Mo_findRow 166 = .ok (.aload_n 0, 1) := by decide +kernel
theorem d_Mo_findRow_167 : decode c_Mo_findRow 167 = .ok (.getfield 90, 3) := by decide +kernel
theorem d_Mo_findRow_170 : decode c_Mo_findRow 170 = .ok (.iload_n 2, 1) := by decide +kernel
theorem d_Mo_findRow_171 : decode c_Mo_findRow 171 = .ok (.iload 4, 2) := by decide +kernel
theorem d_Mo_findRow_173 : decode c_Mo_findRow 173 = .ok (.ifCond .eq 14, 3) := by decide +kernel
theorem d_Mo_findRow_176 : decode c_Mo_findRow 176 = .ok (.aload_n 0, 1) := by decide +kernel
theorem d_Mo_findRow_177 : decode c_Mo_findRow 177 = .ok (.getfield 90, 3) := by decide +kernel
theorem d_Mo_findRow_180 : decode c_Mo_findRow 180 = .ok (.iload_n 3, 1) := by decide +kernel
theorem d_Mo_findRow_181 : decode c_Mo_findRow 181 = .ok (.iaload, 1) := by decide +kernel
theorem d_Mo_findRow_182 : decode c_Mo_findRow 182 = .ok (.iconst 1, 1) := by decide +kernel
theorem d_Mo_findRow_183 : decode c_Mo_findRow 183 = .ok (.iadd, 1) := by decide +kernel
theorem d_Mo_findRow_184 : decode c_Mo_findRow 184 = .ok (.goto 9, 3) := by decide +kernel
theorem d_Mo_findRow_187 : decode c_Mo_findRow 187 = .ok (.aload_n 0, 1) := by decide +kernel
theorem d_Mo_findRow_188 : decode c_Mo_findRow 188 = .ok (.getfield 90, 3) := by decide +kernel
theorem d_Mo_findRow_191 : decode c_Mo_findRow 191 = .ok (.iload_n 2, 1) := by decide +kernel
theorem d_Mo_findRow_192 : decode c_Mo_findRow 192 = .ok (.iaload, 1) := by decide +kernel
theorem d_Mo_findRow_193 : decode c_Mo_findRow 193 = .ok (.iastore, 1) := by decide +kernel
theorem d_Mo_findRow_194 : decode c_Mo_findRow 194 = .ok (.iinc 3 1, 3) := by decide +kernel
theorem d_Mo_findRow_197 : decode c_Mo_findRow 197 = .ok (.goto (-94), 3) := by decide +kernel
theorem d_Mo_findRow_200 : decode c_Mo_findRow 200 = .ok (.iinc 2 (-1), 3) := by decide +kernel
theorem d_Mo_findRow_203 : decode c_Mo_findRow 203 = .ok (.goto (-115), 3) := by decide +kernel
theorem d_Mo_findRow_206 : decode c_Mo_findRow 206 = .ok (.return_, 1) := by decide +kernel
theorem d_Mo_orders_0 : decode c_Mo_orders 0 = .ok (.aload_n 0, 1) := by decide +kernel
theorem d_Mo_orders_1 : decode c_Mo_orders 1 = .ok (.iload_n 1, 1) := by decide +kernel
theorem d_Mo_orders_2 : decode c_Mo_orders 2 = .ok (.invokevirtual 247, 3) := by decide +kernel
theorem d_Mo_orders_5 : decode c_Mo_orders 5 = .ok (.iconst 0, 1) := by decide +kernel
theorem d_Mo_orders_6 : decode c_Mo_orders 6 = .ok (.istore_n 2, 1) := by decide +kernel
theorem d_Mo_orders_7 : decode c_Mo_orders 7 = .ok (.iconst 0, 1) := by decide +kernel
theorem d_Mo_orders_8 : decode c_Mo_orders 8 = .ok (.istore_n 3, 1) := by decide +kernel
theorem d_Mo_orders_9 : decode c_Mo_orders 9 = .ok (.iload_n 3, 1) := by decide +kernel
theorem d_Mo_orders_10 : decode c_Mo_orders 10 = .ok (.aload_n 0, 1) := by decide +kernel
theorem d_Mo_orders_11 : decode c_Mo_orders 11 = .ok (.getfield 244, 3) := by decide +kernel
theorem d_Mo_orders_14 : decode c_Mo_orders 14 = .ok (.if_icmp .ge 30, 3) := by decide +kernel
theorem d_Mo_orders_17 : decode c_Mo_orders 17 = .ok (.aload_n 0, 1) := by decide +kernel
theorem d_Mo_orders_18 : decode c_Mo_orders 18 = .ok (.getfield 90, 3) := by decide +kernel
theorem d_Mo_orders_21 : decode c_Mo_orders 21 = .ok (.iload_n 3, 1) := by decide +kernel
theorem d_Mo_orders_22 : decode c_Mo_orders 22 = .ok (.iaload, 1) := by decide +kernel
theorem d_Mo_orders_23 : decode c_Mo_orders 23 = .ok (.iload_n 2, 1) := by decide +kernel
theorem d_Mo_orders_24 : decode c_Mo_orders 24 = .ok (.if_icmp .le 12, 3) := by decide +kernel
theorem d_Mo_orders_27 : decode c_Mo_orders 27 = .ok (.aload_n 0, 1) := by decide +kernel
theorem d_Mo_orders_28 : decode c_Mo_orders 28 = .ok (.getfield 90, 3) := by decide +kernel
theorem d_Mo_orders_31 : decode c_Mo_orders 31 = .ok (.iload_n 3, 1) := by decide +kernel
theorem d_Mo_orders_32 : decode c_Mo_orders 32 = .ok (.iaload, 1) := by decide +kernel
theorem d_Mo_orders_33 : decode c_Mo_orders 33 = .ok (.goto 4, 3) := by decide +kernel
theorem d_Mo_orders_36 : decode c_Mo_orders 36 = .ok (.iload_n 2, 1) := by decide +kernel
theorem d_Mo_orders_37 : decode c_Mo_orders 37 = .ok (.istore_n 2, 1) := by decide +kernel
theorem d_Mo_orders_38 : decode c_Mo_orders 38 = .ok (.iinc 3 1, 3) := by decide +kernel
theorem d_Mo_orders_41 : decode c_Mo_orders 41 = .ok (.goto (-32), 3) := by decide +kernel
theorem d_Mo_orders_44 : decode c_Mo_orders 44 = .ok (.iconst (-1), 1) := by decide +kernel
theorem d_Mo_orders_45 : decode c_Mo_orders 45 = .ok (.istore_n 3, 1) := by decide +kernel
theorem d_Mo_orders_46 : decode c_Mo_orders 46 = .ok (.iconst 0, 1) := by decide +kernel
theorem d_Mo_orders_47 : decode c_Mo_orders 47 = .ok (.istore 4, 2) := by decide +kernel
theorem d_Mo_orders_49 : decode c_Mo_orders 49 = .ok (.iload 4, 2) := by decide +kernel
theorem d_Mo_orders_51 : decode c_Mo_orders 51 = .ok (.aload_n 0, 1) := by decide +kernel
theorem d_Mo_orders_52 : decode c_Mo_orders 52 = .ok (.getfield 244, 3) := by decide +kernel
theorem d_Mo_orders_55 : decode c_Mo_orders 55 = .ok (.if_icmp .ge 71, 3) := by decide +kernel
theorem d_Mo_orders_58 : decode c_Mo_orders 58 = .ok (.aload_n 0, 1) := by decide +kernel
theorem d_Mo_orders_59 : decode c_Mo_orders 59 = .ok (.aload_n 0, 1) := by decide +kernel
theorem d_Mo_orders_60 : decode c_Mo_orders 60 = .ok (.getfield 81, 3) := by decide +kernel
theorem d_Mo_orders_63 : decode c_Mo_orders 63 = .ok (.aload_n 0, 1) := by decide +kernel
theorem d_Mo_orders_64 : decode c_Mo_orders 64 = .ok (.getfield 87, 3) := by decide +kernel
theorem d_Mo_orders_67 : decode c_Mo_orders 67 = .ok (.iload 4, 2) := by decide +kernel
theorem d_Mo_orders_69 : decode c_Mo_orders 69 = .ok (.iaload, 1) := by decide +kernel
theorem d_Mo_orders_70 : decode c_Mo_orders 70 = .ok (.iaload, 1) := by decide +kernel
theorem d_Mo_orders_71 : decode c_Mo_orders 71 = .ok (.invokevirtual 222, 3) := by decide +kernel
theorem d_Mo_orders_74 : decode c_Mo_orders 74 = .ok (.istore 5, 2) := by decide +kernel
theorem d_Mo_orders_76 : decode c_Mo_orders 76 = .ok (.aload_n 0, 1) := by decide +kernel
theorem d_Mo_orders_77 : decode c_Mo_orders 77 = .ok (.getfield 90, 3) := by decide +kernel
theorem d_Mo_orders_80 : decode c_Mo_orders 80 = .ok (.iload 4, 2) := by decide +kernel
theorem d_Mo_orders_82 : decode c_Mo_orders 82 = .ok (.iaload, 1) := by decide +kernel
theorem d_Mo_orders_83 : decode c_Mo_orders 83 = .ok (.iload_n 2, 1) := by decide +kernel
theorem d_Mo_orders_84 : decode c_Mo_orders 84 = .ok (.if_icmp .ne 36, 3) := by decide +kernel
theorem d_Mo_orders_87 : decode c_Mo_orders 87 = .ok (.iload 5, 2) := by decide +kernel
theorem d_Mo_orders_89 : decode c_Mo_orders 89 = .ok (.iload_n 3, 1) := by decide +kernel
theorem d_Mo_orders_90 : decode c_Mo_orders 90 = .ok (.if_icmp .le 30, 3) := by decide +kernel
theorem d_Mo_orders_93 : decode c_Mo_orders 93 = .ok (.aload_n 0, 1) := by decide +kernel
theorem d_Mo_orders_94 : decode c_Mo_orders 94 = .ok (.getfield 84, 3) := by decide +kernel
theorem d_Mo_orders_97 : decode c_Mo_orders 97 = .ok (.aload_n 0, 1) := by decide +kernel
theorem d_Mo_orders_98 : decode c_Mo_orders 98 = .ok (.getfield 87, 3) := by decide +kernel
theorem d_Mo_orders_101 : decode c_Mo_orders 101 = .ok (.iload 4, 2) := by decide +kernel
theorem d_Mo_orders_103 : decode c_Mo_orders 103 = .ok (.iaload, 1) := by decide +kernel
theorem d_Mo_orders_104 : decode c_Mo_orders 104 = .ok (.iconst 1, 1) := by decide +kernel
theorem d_Mo_orders_105 : decode c_Mo_orders 105 = .ok (.bastore, 1) := by decide +kernel
theorem d_Mo_orders_106 : decode c_Mo_orders 106 = .ok (.iload 5, 2) := by decide +kernel
theorem d_Mo_orders_108 : decode c_Mo_orders 108 = .ok (.istore_n 3, 1) := by decide +kernel
theorem d_Mo_orders_109 : decode c_Mo_orders 109 = .ok (.iinc 2 (-1), 3) := by decide +kernel
theorem d_Mo_orders_112 : decode c_Mo_orders 112 = .ok (.aload_n 0, 1) := by decide +kernel
theorem d_Mo_orders_113 : decode c_Mo_orders 113 = .ok (.getfield 90, 3) := by decide +kernel
theorem d_Mo_orders_116 : decode c_Mo_orders 116 = .ok (.iload 4, 2) := by decide +kernel
theorem d_Mo_orders_118 : decode c_Mo_orders 118 = .ok (.iconst 0, 1) := by decide +kernel
theorem d_Mo_orders_119 : decode c_Mo_orders 119 = .ok (.iastore, 1) := by decide +kernel
theorem d_Mo_orders_120 : decode c_Mo_orders 120 = .ok (.iinc 4 1, 3) := by decide +kernel
theorem d_Mo_orders_123 : decode c_Mo_orders 123 = .ok (.goto (-74), 3) := by decide +kernel
theorem d_Mo_orders_126 : decode c_Mo_orders 126 = .ok (.iconst 0, 1) := by decide +kernel
theorem d_Mo_orders_127 : decode c_Mo_orders 127 = .ok (.istore 4, 2) := by decide +kernel
theorem d_Mo_orders_129 : decode c_Mo_orders 129 = .ok (.iload 4, 2) := by decide +kernel
theorem d_Mo_orders_131 : decode c_Mo_orders 131 = .ok (.aload_n 0, 1) := by decide +kernel
theorem d_Mo_orders_132 : decode c_Mo_orders 132 = .ok (.getfield 244, 3) := by decide +kernel
theorem d_Mo_orders_135 : decode c_Mo_orders 135 = .ok (.if_icmp .ge 30, 3) := by decide +kernel
theorem d_Mo_orders_138 : decode c_Mo_orders 138 = .ok (.aload_n 0, 1) := by decide +kernel
theorem d_Mo_orders_139 : decode c_Mo_orders 139 = .ok (.getfield 90, 3) := by decide +kernel
theorem d_Mo_orders_142 : decode c_Mo_orders 142 = .ok (.iload 4, 2) := by decide +kernel
theorem d_Mo_orders_144 : decode c_Mo_orders 144 = .ok (.iaload, 1) := by decide +kernel
theorem d_Mo_orders_145 : decode c_Mo_orders 145 = .ok (.ifCond .le 14, 3) := by decide +kernel
theorem d_Mo_orders_148 : decode c_Mo_orders 148 = .ok (.aload_n 0, 1) := by decide +kernel
theorem d_Mo_orders_149 : decode c_Mo_orders 149 = .ok (.aload_n 0, 1) := by decide +kernel
theorem d_Mo_orders_150 : decode c_Mo_orders 150 = .ok (.getfield 87, 3) := by decide +kernel
theorem d_Mo_orders_153 : decode c_Mo_orders 153 = .ok (.iload 4, 2) := by decide +kernel
theorem d_Mo_orders_155 : decode c_Mo_orders 155 = .ok (.iaload, 1) := by decide +kernel
theorem d_Mo_orders_156 : decode c_Mo_orders 156 = .ok (.invokevirtual 250, 3) := by decide +kernel
theorem d_Mo_orders_159 : decode c_Mo_orders 159 = .ok (.iinc 4 1, 3) := by decide +kernel
theorem d_Mo_orders_162 : decode c_Mo_orders 162 = .ok (.goto (-33), 3) := by decide +kernel
theorem d_Mo_orders_165 : decode c_Mo_orders 165 = .ok (.return_, 1) := by decide +kernel
theorem d_Mo_goesThrough_0 : decode c_Mo_goesThrough 0 = .ok (.aload_n 0, 1) := by decide +kernel
theorem d_Mo_goesThrough_1 : decode c_Mo_goesThrough 1 = .ok (.getfield 81, 3) := by decide +kernel
theorem d_Mo_goesThrough_4 : decode c_Mo_goesThrough 4 = .ok (.aload_n 0, 1) := by decide +kernel
theorem d_Mo_goesThrough_5 : decode c_Mo_goesThrough 5 = .ok (.iload_n 1, 1) := by decide +kernel
theorem d_Mo_goesThrough_6 : decode c_Mo_goesThrough 6 = .ok (.invokevirtual 231, 3) := by decide +kernel
theorem d_Mo_goesThrough_9 : decode c_Mo_goesThrough 9 = .ok (.iaload, 1) := by decide +kernel
theorem d_Mo_goesThrough_10 : decode c_Mo_goesThrough 10 = .ok (.istore_n 2, 1) := by decide +kernel
theorem d_Mo_goesThrough_11 : decode c_Mo_goesThrough 11 = .ok (.aload_n 0, 1) := by decide +kernel
theorem d_Mo_goesThrough_12 : decode c_Mo_goesThrough 12 = .ok (.getfield 81, 3) := by decide +kernel
theorem d_Mo_goesThrough_15 : decode c_Mo_goesThrough 15 = .ok (.iload_n 1, 1) := by decide +kernel
theorem d_Mo_goesThrough_16 : decode c_Mo_goesThrough 16 = .ok (.iaload, 1) := by decide +kernel
theorem d_Mo_goesThrough_17 : decode c_Mo_goesThrough 17 = .ok (.istore_n 3, 1) := by decide +kernel
theorem d_Mo_goesThrough_18 : decode c_Mo_goesThrough 18 = .ok (.iload_n 3, 1) := by decide +kernel
theorem d_Mo_goesThrough_19 : decode c_Mo_goesThrough 19 = .ok (.ifCond .ge 96, 3) := by decide +kernel
theorem d_Mo_goesThrough_22 : decode c_Mo_goesThrough 22 = .ok (.bipush 24, 2) := by decide +kernel
theorem d_Mo_goesThrough_24 : decode c_Mo_goesThrough 24 = .ok (.iload_n 1, 1) := by decide +kernel
theorem d_Mo_goesThrough_25 : decode c_Mo_goesThrough 25 = .ok (.iadd, 1) := by decide +kernel
theorem d_Mo_goesThrough_26 : decode c_Mo_goesThrough 26 = .ok (.istore_n 3, 1) := by decide +kernel
theorem d_Mo_goesThrough_27 : decode c_Mo_goesThrough 27 = .ok (.aload_n 0, 1) := by decide +kernel
theorem d_Mo_goesThrough_28 : decode c_Mo_goesThrough 28 = .ok (.iload_n 1, 1) := by decide +kernel
theorem d_Mo_goesThrough_29 : decode c_Mo_goesThrough 29 = .ok (.invokevirtual 237, 3) := by decide +kernel
theorem d_Mo_goesThrough_32 : decode c_Mo_goesThrough 32 = .ok (.istore 4, 2) := by decide +kernel
theorem d_Mo_goesThrough_34 : decode c_Mo_goesThrough 34 = .ok (.aload_n 0, 1) := by decide +kernel
theorem d_Mo_goesThrough_35 : decode c_Mo_goesThrough 35 = .ok (.getfield 66, 3) := by decide +kernel
theorem d_Mo_goesThrough_38 : decode c_Mo_goesThrough 38 = .ok (.iload_n 3, 1) := by decide +kernel
theorem d_Mo_goesThrough_39 : decode c_Mo_goesThrough 39 = .ok (.aload_n 0, 1) := by decide +kernel
theorem d_Mo_goesThrough_40 : decode c_Mo_goesThrough 40 = .ok (.getfield 13, 3) := by decide +kernel
theorem d_Mo_goesThrough_43 : decode c_Mo_goesThrough 43 = .ok (.iconst 1, 1) := by decide +kernel
theorem d_Mo_goesThrough_44 : decode c_Mo_goesThrough 44 = .ok (.iload_n 1, 1) := by decide +kernel
theorem d_Mo_goesThrough_45 : decode c_Mo_goesThrough 45 = .ok (.invokestatic 114, 3) := by decide +kernel
theorem d_Mo_goesThrough_48 : decode c_Mo_goesThrough 48 = .ok (.iaload, 1) := by decide +kernel
theorem d_Mo_goesThrough_49 : decode c_Mo_goesThrough 49 = .ok (.iastore, 1) := by decide +kernel
theorem d_Mo_goesThrough_50 : decode c_Mo_goesThrough 50 = .ok (.aload_n 0, 1) := by decide +kernel
theorem d_Mo_goesThrough_51 : decode c_Mo_goesThrough 51 = .ok (.getfield 69, 3) := by decide +kernel
theorem d_Mo_goesThrough_54 : decode c_Mo_goesThrough 54 = .ok (.iload_n 3, 1) := by decide +kernel
theorem d_Mo_goesThrough_55 : decode c_Mo_goesThrough 55 = .ok (.aload_n 0, 1) := by decide +kernel
theorem d_Mo_goesThrough_56 : decode c_Mo_goesThrough 56 = .ok (.getfield 16, 3) := by decide +kernel
theorem d_Mo_goesThrough_59 : decode c_Mo_goesThrough 59 = .ok (.iconst 1, 1) := by decide +kernel
theorem d_Mo_goesThrough_60 : decode c_Mo_goesThrough 60 = .ok (.iload_n 1, 1) := by decide +kernel
theorem d_Mo_goesThrough_61 : decode c_Mo_goesThrough 61 = .ok (.invokestatic 114, 3) := by decide +kernel
theorem d_Mo_goesThrough_64 : decode c_Mo_goesThrough 64 = .ok (.iaload, 1) := by decide +kernel
theorem d_Mo_goesThrough_65 : decode c_Mo_goesThrough 65 = .ok (.iastore, 1) := by decide +kernel
theorem d_Mo_goesThrough_66 : decode c_Mo_goesThrough 66 = .ok (.aload_n 0, 1) := by decide +kernel
theorem d_Mo_goesThrough_67 : decode c_Mo_goesThrough 67 = .ok (.iload_n 3, 1) := by decide +kernel
theorem d_Mo_goesThrough_68 : decode c_Mo_goesThrough 68 = .ok (.iload_n 2, 1) := by decide +kernel
theorem d_Mo_goesThrough_69 : decode c_Mo_goesThrough 69 = .ok (.iload 4, 2) := by decide +kernel
theorem d_Mo_goesThrough_71 : decode c_Mo_goesThrough 71 = .ok (.invokevirtual 219, 3) := by decide +kernel
theorem d_Mo_goesThrough_74 : decode c_Mo_goesThrough 74 = .ok (.aload_n 0, 1) := by decide +kernel
theorem d_Mo_goesThrough_75 : decode c_Mo_goesThrough 75 = .ok (.getfield 81, 3) := by decide +kernel
theorem d_Mo_goesThrough_78 : decode c_Mo_goesThrough 78 = .ok (.iload_n 1, 1) := by decide +kernel
theorem d_Mo_goesThrough_79 : decode c_Mo_goesThrough 79 = .ok (.iload_n 3, 1) := by decide +kernel
theorem d_Mo_goesThrough_80 : decode c_Mo_goesThrough 80 = .ok (.iastore, 1) := by decide +kernel
theorem d_Mo_goesThrough_81 : decode c_Mo_goesThrough 81 = .ok (.aload_n 0, 1) := by decide +kernel
theorem d_Mo_goesThrough_82 : decode c_Mo_goesThrough 82 = .ok (.getfield 84, 3) := by decide +kernel
theorem d_Mo_goesThrough_85 : decode c_Mo_goesThrough 85 = .ok (.iload_n 1, 1) := by decide +kernel
theorem d_Mo_goesThrough_86 : decode c_Mo_goesThrough 86 = .ok (.iconst 1, 1) := by decide +kernel
theorem d_Mo_goesThrough_87 : decode c_Mo_goesThrough 87 = .ok (.bastore, 1) := by decide +kernel
theorem d_Mo_goesThrough_88 : decode c_Mo_goesThrough 88 = .ok (.aload_n 0, 1) := by decide +kernel
theorem d_Mo_goesThrough_89 : decode c_Mo_goesThrough 89 = .ok (.iconst 1, 1) := by decide +kernel
theorem d_Mo_goesThrough_90 : decode c_Mo_goesThrough 90 = .ok (.iload_n 3, 1) := by decide +kernel
theorem d_Mo_goesThrough_91 : decode c_Mo_goesThrough 91 = .ok (.iload_n 2, 1) := by decide +kernel
theorem d_Mo_goesThrough_92 : decode c_Mo_goesThrough 92 = .ok (.invokestatic 228, 3) := by decide +kernel
theorem d_Mo_goesThrough_95 : decode c_Mo_goesThrough 95 = .ok (.iload 4, 2) := by decide +kernel
theorem d_Mo_goesThrough_97 : decode c_Mo_goesThrough 97 = .ok (.aload_n 0, 1) := by decide +kernel
theorem d_Mo_goesThrough_98 : decode c_Mo_goesThrough 98 = .ok (.getfield 66, 3) := by decide +kernel
theorem d_Mo_goesThrough_101 : decode c_Mo_goesThrough 101 = .ok (.iload_n 3, 1) := by decide +kernel
theorem d_Mo_goesThrough_102 : decode c_Mo_goesThrough 102 = .ok (.iaload, 1) := by decide +kernel
theorem d_Mo_goesThrough_103 : decode c_Mo_goesThrough 103 = .ok (.aload_n 0, 1) := by decide +kernel
theorem d_Mo_goesThrough_104 : decode c_Mo_goesThrough 104 = .ok (.getfield 69, 3) := by decide +kernel
theorem d_Mo_goesThrough_107 : decode c_Mo_goesThrough 107 = .ok (.iload_n 3, 1) := by decide +kernel
theorem d_Mo_goesThrough_108 : decode c_Mo_goesThrough 108 = .ok (.iaload, 1) := by decide +kernel
theorem d_Mo_goesThrough_109 : decode c_Mo_goesThrough 109 = .ok (.invokevirtual 240, 3) := by decide +kernel
theorem d_Mo_goesThrough_112 : decode c_Mo_goesThrough 112 = .ok (.goto 71, 3) := by decide +kernel
theorem d_Mo_goesThrough_115 : decode c_Mo_goesThrough 115 = .ok (.aload_n 0, 1) := by decide +kernel
theorem d_Mo_goesThrough_116 : decode c_Mo_goesThrough 116 = .ok (.getfield 69, 3) := by decide +kernel
theorem d_Mo_goesThrough_119 : decode c_Mo_goesThrough 119 = .ok (.iload_n 3, 1) := by decide +kernel
theorem d_Mo_goesThrough_120 : decode c_Mo_goesThrough 120 = .ok (.iaload, 1) := by decide +kernel
theorem d_Mo_goesThrough_121 : decode c_Mo_goesThrough 121 = .ok (.aload_n 0, 1) := by decide +kernel
theorem d_Mo_goesThrough_122 : decode c_Mo_goesThrough 122 = .ok (.getfield 16, 3) := by decide +kernel
theorem d_Mo_goesThrough_125 : decode c_Mo_goesThrough 125 = .ok (.iconst 1, 1) := by decide +kernel
theorem d_Mo_goesThrough_126 : decode c_Mo_goesThrough 126 = .ok (.iload_n 1, 1) := by decide +kernel
theorem d_Mo_goesThrough_127 : decode c_Mo_goesThrough 127 = .ok (.invokestatic 114, 3) := by decide +kernel
theorem d_Mo_goesThrough_130 : decode c_Mo_goesThrough 130 = .ok (.iaload, 1) := by decide +kernel
theorem d_Mo_goesThrough_131 : decode c_Mo_goesThrough 131 = .ok (.if_icmp .eq 37, 3) := by decide +kernel
theorem d_Mo_goesThrough_134 : decode c_Mo_goesThrough 134 = .ok (.aload_n 0, 1) := by decide +kernel
theorem d_Mo_goesThrough_135 : decode c_Mo_goesThrough 135 = .ok (.getfield 69, 3) := by decide +kernel
theorem d_Mo_goesThrough_138 : decode c_Mo_goesThrough 138 = .ok (.iload_n 3, 1) := by decide +kernel
theorem d_Mo_goesThrough_139 : decode c_Mo_goesThrough 139 = .ok (.aload_n 0, 1) := by decide +kernel
theorem d_Mo_goesThrough_140 : decode c_Mo_goesThrough 140 = .ok (.getfield 16, 3) := by decide +kernel
theorem d_Mo_goesThrough_143 : decode c_Mo_goesThrough 143 = .ok (.iconst 1, 1) := by decide +kernel
theorem d_Mo_goesThrough_144 : decode c_Mo_goesThrough 144 = .ok (.iload_n 1, 1) := by decide +kernel
theorem d_Mo_goesThrough_145 : decode c_Mo_goesThrough 145 = .ok (.invokestatic 114, 3) := by decide +kernel
theorem d_Mo_goesThrough_148 : decode c_Mo_goesThrough 148 = .ok (.iaload, 1) := by decide +kernel
theorem d_Mo_goesThrough_149 : decode c_Mo_goesThrough 149 = .ok (.iastore, 1) := by decide +kernel
theorem d_Mo_goesThrough_150 : decode c_Mo_goesThrough 150 = .ok (.aload_n 0, 1) := by decide +kernel
theorem d_Mo_goesThrough_151 : decode c_Mo_goesThrough 151 = .ok (.iconst 0, 1) := by decide +kernel
theorem d_Mo_goesThrough_152 : decode c_Mo_goesThrough 152 = .ok (.iload_n 3, 1) := by decide +kernel
theorem d_Mo_goesThrough_153 : decode c_Mo_goesThrough 153 = .ok (.bipush (-15), 2) := by decide +kernel
theorem d_Mo_goesThrough_155 : decode c_Mo_goesThrough 155 = .ok (.bipush (-15), 2) := by decide +kernel
theorem d_Mo_goesThrough_157 : decode c_Mo_goesThrough 157 = .ok (.bipush (-15), 2) := by decide +kernel
theorem d_Mo_goesThrough_159 : decode c_Mo_goesThrough 159 = .ok (.aload_n 0, 1) := by decide +kernel
theorem d_Mo_goesThrough_160 : decode c_Mo_goesThrough 160 = .ok (.getfield 69, 3) := by decide +kernel
theorem d_Mo_goesThrough_163 : decode c_Mo_goesThrough 163 = .ok (.iload_n 3, 1) := by decide +kernel
theorem d_Mo_goesThrough_164 : decode c_Mo_goesThrough 164 = .ok (.iaload, 1) := by decide +kernel
theorem d_Mo_goesThrough_165 : decode c_Mo_goesThrough 165 = .ok (.invokevirtual 240, 3) := by decide +kernel
theorem d_Mo_goesThrough_168 : decode c_Mo_goesThrough 168 = .ok (.aload_n 0, 1) := by decide +kernel
theorem d_Mo_goesThrough_169 : decode c_Mo_goesThrough 169 = .ok (.getfield 63, 3) := by decide +kernel
theorem d_Mo_goesThrough_172 : decode c_Mo_goesThrough 172 = .ok (.iload_n 3, 1) := by decide +kernel
theorem d_Mo_goesThrough_173 : decode c_Mo_goesThrough 173 = .ok (.iaload, 1) := by decide +kernel
theorem d_Mo_goesThrough_174 : decode c_Mo_goesThrough 174 = .ok (.iload_n 2, 1) := by decide +kernel
theorem d_Mo_goesThrough_175 : decode c_Mo_goesThrough 175 = .ok (.if_icmp .eq 8, 3) := by decide +kernel
theorem d_Mo_goesThrough_178 : decode c_Mo_goesThrough 178 = .ok (.aload_n 0, 1) := by decide +kernel
theorem d_Mo_goesThrough_179 : decode c_Mo_goesThrough 179 = .ok (.iload_n 1, 1) := by decide +kernel
theorem d_Mo_goesThrough_180 : decode c_Mo_goesThrough 180 = .ok (.invokevirtual 250, 3) := by decide +kernel
theorem d_Mo_goesThrough_183 : decode c_Mo_goesThrough 183 = .ok (.aload_n 0, 1) := by decide +kernel
theorem d_Mo_goesThrough_184 : decode c_Mo_goesThrough 184 = .ok (.iload_n 1, 1) := by decide +kernel
theorem d_Mo_goesThrough_185 : decode c_Mo_goesThrough 185 = .ok (.invokevirtual 253, 3) := by decide +kernel
theorem d_Mo_goesThrough_188 : decode c_Mo_goesThrough 188 = .ok (.return_, 1) := by decide +kernel
theorem d_Mo_level_0 : decode c_Mo_level 0 = .ok (.iconst 0, 1) := by decide +kernel
theorem d_Mo_level_1 : decode c_Mo_level 1 = .ok (.istore_n 2, 1) := by decide +kernel
theorem d_Mo_level_2 : decode c_Mo_level 2 = .ok (.iload_n 1, 1) := by decide +kernel
theorem d_Mo_level_3 : decode c_Mo_level 3 = .ok (.istore_n 3, 1) := by decide +kernel
theorem d_Mo_level_4 : decode c_Mo_level 4 = .ok (.iload_n 3, 1) := by decide +kernel
theorem d_Mo_level_5 : decode c_Mo_level 5 = .ok (.ifCond .le 20, 3) := by decide +kernel
theorem d_Mo_level_8 : decode c_Mo_level 8 = .ok (.iinc 2 1, 3) := by decide +kernel
theorem d_Mo_level_11 : decode c_Mo_level 11 = .ok (.aload_n 0, 1) := by decide +kernel
theorem d_Mo_level_12 : decode c_Mo_level 12 = .ok (.getfield 19, 3) := by decide +kernel
theorem d_Mo_level_15 : decode c_Mo_level 15 = .ok (.iconst 1, 1) := by decide +kernel
theorem d_Mo_level_16 : decode c_Mo_level 16 = .ok (.iload_n 3, 1) := by decide +kernel
theorem d_Mo_level_17 : decode c_Mo_level 17 = .ok (.invokestatic 114, 3) := by decide +kernel
theorem d_Mo_level_20 : decode c_Mo_level 20 = .ok (.iaload, 1) := by decide +kernel
theorem d_Mo_level_21 : decode c_Mo_level 21 = .ok (.istore_n 3, 1) := by decide +kernel
theorem d_Mo_level_22 : decode c_Mo_level 22 = .ok (.goto (-18), 3) := by decide +kernel
theorem d_Mo_level_25 : decode c_Mo_level 25 = .ok (.iload_n 2, 1) := by decide +kernel
theorem d_Mo_level_26 : decode c_Mo_level 26 = .ok (.ireturn, 1) := by decide +kernel
theorem d_Mo_writes_0 : decode c_Mo_writes 0 = .ok (.aload_n 0, 1) := by decide +kernel
theorem d_Mo_writes_1 : decode c_Mo_writes 1 = .ok (.iconst 0, 1) := by decide +kernel
theorem d_Mo_writes_2 : decode c_Mo_writes 2 = .ok (.putfield 225, 3) := by decide +kernel
theorem d_Mo_writes_5 : decode c_Mo_writes 5 = .ok (.aload_n 0, 1) := by decide +kernel
theorem d_Mo_writes_6 : decode c_Mo_writes 6 = .ok (.iconst 0, 1) := by decide +kernel
theorem d_Mo_writes_7 : decode c_Mo_writes 7 = .ok (.invokevirtual 256, 3) := by decide +kernel
theorem d_Mo_writes_10 : decode c_Mo_writes 10 = .ok (.iconst 0, 1) := by decide +kernel
theorem d_Mo_writes_11 : decode c_Mo_writes 11 = .ok (.istore_n 1, 1) := by decide +kernel
theorem d_Mo_writes_12 : decode c_Mo_writes 12 = .ok (.iload_n 1, 1) := by decide +kernel
theorem d_Mo_writes_13 : decode c_Mo_writes 13 = .ok (.bipush 24, 2) := by decide +kernel
theorem d_Mo_writes_15 : decode c_Mo_writes 15 = .ok (.if_icmp .ge 42, 3) := by decide +kernel
theorem d_Mo_writes_18 : decode c_Mo_writes 18 = .ok (.aload_n 0, 1) := by decide +kernel
theorem d_Mo_writes_19 : decode c_Mo_writes 19 = .ok (.getfield 81, 3) := by decide +kernel
theorem d_Mo_writes_22 : decode c_Mo_writes 22 = .ok (.iload_n 1, 1) := by decide +kernel
theorem d_Mo_writes_23 : decode c_Mo_writes 23 = .ok (.iload_n 1, 1) := by decide +kernel
theorem d_Mo_writes_24 : decode c_Mo_writes 24 = .ok (.aload_n 0, 1) := by decide +kernel
theorem d_Mo_writes_25 : decode c_Mo_writes 25 = .ok (.getfield 7, 3) := by decide +kernel
theorem d_Mo_writes_28 : decode c_Mo_writes 28 = .ok (.iconst 1, 1) := by decide +kernel
theorem d_Mo_writes_29 : decode c_Mo_writes 29 = .ok (.iaload, 1) := by decide +kernel
theorem d_Mo_writes_30 : decode c_Mo_writes 30 = .ok (.if_icmp .ge 12, 3) := by decide +kernel
theorem d_Mo_writes_33 : decode c_Mo_writes 33 = .ok (.aload_n 0, 1) := by decide +kernel
theorem d_Mo_writes_34 : decode c_Mo_writes 34 = .ok (.getfield 54, 3) := by decide +kernel
theorem d_Mo_writes_37 : decode c_Mo_writes 37 = .ok (.iload_n 1, 1) := by decide +kernel
theorem d_Mo_writes_38 : decode c_Mo_writes 38 = .ok (.iaload, 1) := by decide +kernel
theorem d_Mo_writes_39 : decode c_Mo_writes 39 = .ok (.goto 4, 3) := by decide +kernel
theorem d_Mo_writes_42 : decode c_Mo_writes 42 = .ok (.iconst (-1), 1) := by decide +kernel
theorem d_Mo_writes_43 : decode c_Mo_writes 43 = .ok (.iastore, 1) := by decide +kernel
theorem d_Mo_writes_44 : decode c_Mo_writes 44 = .ok (.aload_n 0, 1) := by decide +kernel
theorem d_Mo_writes_45 : decode c_Mo_writes 45 = .ok (.getfield 84, 3) := by decide +kernel
theorem d_Mo_writes_48 : decode c_Mo_writes 48 = .ok (.iload_n 1, 1) := by decide +kernel
theorem d_Mo_writes_49 : decode c_Mo_writes 49 = .ok (.iconst 0, 1) := by decide +kernel
theorem d_Mo_writes_50 : decode c_Mo_writes 50 = .ok (.bastore, 1) := by decide +kernel
theorem d_Mo_writes_51 : decode c_Mo_writes 51 = .ok (.iinc 1 1, 3) := by decide +kernel
theorem d_Mo_writes_54 : decode c_Mo_writes 54 = .ok (.goto (-42), 3) := by decide +kernel
theorem d_Mo_writes_57 : decode c_Mo_writes 57 = .ok (.aload_n 0, 1) := by decide +kernel
theorem d_Mo_writes_58 : decode c_Mo_writes 58 = .ok (.getfield 81, 3) := by decide +kernel
theorem d_Mo_writes_61 : decode c_Mo_writes 61 = .ok (.bipush 24, 2) := by decide +kernel
theorem d_Mo_writes_63 : decode c_Mo_writes 63 = .ok (.bipush 48, 2) := by decide +kernel
theorem d_Mo_writes_65 : decode c_Mo_writes 65 = .ok (.iastore, 1) := by decide +kernel
theorem d_Mo_writes_66 : decode c_Mo_writes 66 = .ok (.aload_n 0, 1) := by decide +kernel
theorem d_Mo_writes_67 : decode c_Mo_writes 67 = .ok (.bipush 24, 2) := by decide +kernel
theorem d_Mo_writes_69 : decode c_Mo_writes 69 = .ok (.invokevirtual 253, 3) := by decide +kernel
theorem d_Mo_writes_72 : decode c_Mo_writes 72 = .ok (.iconst 0, 1) := by decide +kernel
theorem d_Mo_writes_73 : decode c_Mo_writes 73 = .ok (.istore_n 1, 1) := by decide +kernel
theorem d_Mo_writes_74 : decode c_Mo_writes 74 = .ok (.iload_n 1, 1) := by decide +kernel
theorem d_Mo_writes_75 : decode c_Mo_writes 75 = .ok (.bipush 24, 2) := by decide +kernel
theorem d_Mo_writes_77 : decode c_Mo_writes 77 = .ok (.if_icmp .ge 41, 3) := by decide +kernel
theorem d_Mo_writes_80 : decode c_Mo_writes 80 = .ok (.iconst 0, 1) := by decide +kernel
theorem d_Mo_writes_81 : decode c_Mo_writes 81 = .ok (.istore_n 2, 1) := by decide +kernel
theorem d_Mo_writes_82 : decode c_Mo_writes 82 = .ok (.iload_n 2, 1) := by decide +kernel
theorem d_Mo_writes_83 : decode c_Mo_writes 83 = .ok (.aload_n 0, 1) := by decide +kernel
theorem d_Mo_writes_84 : decode c_Mo_writes 84 = .ok (.getfield 7, 3) := by decide +kernel
theorem d_Mo_writes_87 : decode c_Mo_writes 87 = .ok (.iconst 1, 1) := by decide +kernel
theorem d_Mo_writes_88 : decode c_Mo_writes 88 = .ok (.iaload, 1) := by decide +kernel
theorem d_Mo_writes_89 : decode c_Mo_writes 89 = .ok (.if_icmp .ge 23, 3) := by decide +kernel
theorem d_Mo_writes_92 : decode c_Mo_writes 92 = .ok (.aload_n 0, 1) := by decide +kernel
theorem d_Mo_writes_93 : decode c_Mo_writes 93 = .ok (.iload_n 2, 1) := by decide +kernel
theorem d_Mo_writes_94 : decode c_Mo_writes 94 = .ok (.invokevirtual 259, 3) := by decide +kernel
theorem d_Mo_writes_97 : decode c_Mo_writes 97 = .ok (.iload_n 1, 1) := by decide +kernel
theorem d_Mo_writes_98 : decode c_Mo_writes 98 = .ok (.if_icmp .ne 8, 3) := by decide +kernel
theorem d_Mo_writes_101 : decode c_Mo_writes 101 = .ok (.aload_n 0, 1) := by decide +kernel
theorem d_Mo_writes_102 : decode c_Mo_writes 102 = .ok (.iload_n 2, 1) := by decide +kernel
theorem d_Mo_writes_103 : decode c_Mo_writes 103 = .ok (.invokevirtual 262, 3) := by decide +kernel
theorem d_Mo_writes_106 : decode c_Mo_writes 106 = .ok (.iinc 2 1, 3) := by decide +kernel
theorem d_Mo_writes_109 : decode c_Mo_writes 109 = .ok (.goto (-27), 3) := by decide +kernel
theorem d_Mo_writes_112 : decode c_Mo_writes 112 = .ok (.iinc 1 1, 3) := by decide +kernel
theorem d_Mo_writes_115 : decode c_Mo_writes 115 = .ok (.goto (-41), 3) := by decide +kernel
theorem d_Mo_writes_118 : decode c_Mo_writes 118 = .ok (.aload_n 0, 1) := by decide +kernel
theorem d_Mo_writes_119 : decode c_Mo_writes 119 = .ok (.iconst 0, 1) := by decide +kernel
theorem d_Mo_writes_120 : decode c_Mo_writes 120 = .ok (.invokevirtual 209, 3) := by decide +kernel
theorem d_Mo_writes_123 : decode c_Mo_writes 123 = .ok (.iconst 0, 1) := by decide +kernel
theorem d_Mo_writes_124 : decode c_Mo_writes 124 = .ok (.istore_n 1, 1) := by decide +kernel
theorem d_Mo_writes_125 : decode c_Mo_writes 125 = .ok (.iload_n 1, 1) := by decide +kernel
theorem d_Mo_writes_126 : decode c_Mo_writes 126 = .ok (.aload_n 0, 1) := by decide +kernel
theorem d_Mo_writes_127 : decode c_Mo_writes 127 = .ok (.getfield 7, 3) := by decide +kernel
theorem d_Mo_writes_130 : decode c_Mo_writes 130 = .ok (.iconst 0, 1) := by decide +kernel
theorem d_Mo_writes_131 : decode c_Mo_writes 131 = .ok (.iaload, 1) := by decide +kernel
theorem d_Mo_writes_132 : decode c_Mo_writes 132 = .ok (.if_icmp .ge 52, 3) := by decide +kernel
theorem d_Mo_writes_135 : decode c_Mo_writes 135 = .ok (.aload_n 0, 1) := by decide +kernel
theorem d_Mo_writes_136 : decode c_Mo_writes 136 = .ok (.getfield 51, 3) := by decide +kernel
theorem d_Mo_writes_139 : decode c_Mo_writes 139 = .ok (.aload_n 0, 1) := by decide +kernel
theorem d_Mo_writes_140 : decode c_Mo_writes 140 = .ok (.getfield 60, 3) := by decide +kernel
theorem d_Mo_writes_143 : decode c_Mo_writes 143 = .ok (.iload_n 1, 1) := by decide +kernel
theorem d_Mo_writes_144 : decode c_Mo_writes 144 = .ok (.iaload, 1) := by decide +kernel
theorem d_Mo_writes_145 : decode c_Mo_writes 145 = .ok (.iaload, 1) := by decide +kernel
theorem d_Mo_writes_146 : decode c_Mo_writes 146 = .ok (.ifCond .ge 32, 3) := by decide +kernel
theorem d_Mo_writes_149 : decode c_Mo_writes 149 = .ok (.aload_n 0, 1) := by decide +kernel
theorem d_Mo_writes_150 : decode c_Mo_writes 150 = .ok (.aload_n 0, 1) := by decide +kernel
theorem d_Mo_writes_151 : decode c_Mo_writes 151 = .ok (.getfield 60, 3) := by decide +kernel
theorem d_Mo_writes_154 : decode c_Mo_writes 154 = .ok (.iload_n 1, 1) := by decide +kernel
theorem d_Mo_writes_155 : decode c_Mo_writes 155 = .ok (.iaload, 1) := by decide +kernel
theorem d_Mo_writes_156 : decode c_Mo_writes 156 = .ok (.invokevirtual 234, 3) := by decide +kernel
theorem d_Mo_writes_159 : decode c_Mo_writes 159 = .ok (.aload_n 0, 1) := by decide +kernel
theorem d_Mo_writes_160 : decode c_Mo_writes 160 = .ok (.iconst 3, 1) := by decide +kernel
theorem d_Mo_writes_161 : decode c_Mo_writes 161 = .ok (.aload_n 0, 1) := by decide +kernel
theorem d_Mo_writes_162 : decode c_Mo_writes 162 = .ok (.getfield 60, 3) := by decide +kernel
theorem d_Mo_writes_165 : decode c_Mo_writes 165 = .ok (.iload_n 1, 1) := by decide +kernel
theorem d_Mo_writes_166 : decode c_Mo_writes 166 = .ok (.iaload, 1) := by decide +kernel
theorem d_Mo_writes_167 : decode c_Mo_writes 167 = .ok (.bipush (-15), 2) := by decide +kernel
theorem d_Mo_writes_169 : decode c_Mo_writes 169 = .ok (.bipush (-15), 2) := by decide +kernel
theorem d_Mo_writes_171 : decode c_Mo_writes 171 = .ok (.bipush (-15), 2) := by decide +kernel
theorem d_Mo_writes_173 : decode c_Mo_writes 173 = .ok (.bipush (-15), 2) := by decide +kernel
theorem d_Mo_writes_175 : decode c_Mo_writes 175 = .ok (.invokevirtual 240, 3) := by decide +kernel
theorem d_Mo_writes_178 : decode c_Mo_writes 178 = .ok (.iinc 1 1, 3) := by decide +kernel
theorem d_Mo_writes_181 : decode c_Mo_writes 181 = .ok (.goto (-56), 3) := by decide +kernel
theorem d_Mo_writes_184 : decode c_Mo_writes 184 = .ok (.return_, 1) := by decide +kernel
theorem d_Mo_finds_0 : decode c_Mo_finds 0 = .ok (.aload_n 0, 1) := by decide +kernel
theorem d_Mo_finds_1 : decode c_Mo_finds 1 = .ok (.getfield 265, 3) := by decide +kernel
theorem d_Mo_finds_4 : decode c_Mo_finds 4 = .ok (.ifCond .eq 4, 3) := by decide +kernel
theorem d_Mo_finds_7 : decode c_Mo_finds 7 = .ok (.return_, 1) := by decide +kernel
theorem d_Mo_finds_8 : decode c_Mo_finds 8 = .ok (.aload_n 0, 1) := by decide +kernel
theorem d_Mo_finds_9 : decode c_Mo_finds 9 = .ok (.invokevirtual 268, 3) := by decide +kernel
theorem d_Mo_finds_12 : decode c_Mo_finds 12 = .ok (.aload_n 0, 1) := by decide +kernel
theorem d_Mo_finds_13 : decode c_Mo_finds 13 = .ok (.invokevirtual 271, 3) := by decide +kernel
theorem d_Mo_finds_16 : decode c_Mo_finds 16 = .ok (.aload_n 0, 1) := by decide +kernel
theorem d_Mo_finds_17 : decode c_Mo_finds 17 = .ok (.iconst 1, 1) := by decide +kernel
theorem d_Mo_finds_18 : decode c_Mo_finds 18 = .ok (.putfield 265, 3) := by decide +kernel
theorem d_Mo_finds_21 : decode c_Mo_finds 21 = .ok (.aload_n 0, 1) := by decide +kernel
theorem d_Mo_finds_22 : decode c_Mo_finds 22 = .ok (.aload_n 0, 1) := by decide +kernel
theorem d_Mo_finds_23 : decode c_Mo_finds 23 = .ok (.getfield 274, 3) := by decide +kernel
theorem d_Mo_finds_26 : decode c_Mo_finds 26 = .ok (.invokevirtual 277, 3) := by decide +kernel
theorem d_Mo_finds_29 : decode c_Mo_finds 29 = .ok (.return_, 1) := by decide +kernel
theorem d_Mo_changes_0 : decode c_Mo_changes 0 = .ok (.aload_n 0, 1) := by decide +kernel
theorem d_Mo_changes_1 : decode c_Mo_changes 1 = .ok (.iconst 0, 1) := by decide +kernel
theorem d_Mo_changes_2 : decode c_Mo_changes 2 = .ok (.putfield 265, 3) := by decide +kernel
theorem d_Mo_changes_5 : decode c_Mo_changes 5 = .ok (.aload_n 0, 1) := by decide +kernel
theorem d_Mo_changes_6 : decode c_Mo_changes 6 = .ok (.iconst 0, 1) := by decide +kernel
theorem d_Mo_changes_7 : decode c_Mo_changes 7 = .ok (.putfield 274, 3) := by decide +kernel
theorem d_Mo_changes_10 : decode c_Mo_changes 10 = .ok (.aload_n 0, 1) := by decide +kernel
theorem d_Mo_changes_11 : decode c_Mo_changes 11 = .ok (.iconst 0, 1) := by decide +kernel
theorem d_Mo_changes_12 : decode c_Mo_changes 12 = .ok (.invokevirtual 280, 3) := by decide +kernel
theorem d_Mo_changes_15 : decode c_Mo_changes 15 = .ok (.aload_n 0, 1) := by decide +kernel
theorem d_Mo_changes_16 : decode c_Mo_changes 16 = .ok (.iconst 1, 1) := by decide +kernel
theorem d_Mo_changes_17 : decode c_Mo_changes 17 = .ok (.invokevirtual 280, 3) := by decide +kernel
theorem d_Mo_changes_20 : decode c_Mo_changes 20 = .ok (.return_, 1) := by decide +kernel
theorem d_Mo_goesTo_0 : decode c_Mo_goesTo 0 = .ok (.aload_n 0, 1) := by decide +kernel
theorem d_Mo_goesTo_1 : decode c_Mo_goesTo 1 = .ok (.iconst 0, 1) := by decide +kernel
theorem d_Mo_goesTo_2 : decode c_Mo_goesTo 2 = .ok (.invokevirtual 256, 3) := by decide +kernel
theorem d_Mo_goesTo_5 : decode c_Mo_goesTo 5 = .ok (.iconst 0, 1) := by decide +kernel
theorem d_Mo_goesTo_6 : decode c_Mo_goesTo 6 = .ok (.istore_n 2, 1) := by decide +kernel
theorem d_Mo_goesTo_7 : decode c_Mo_goesTo 7 = .ok (.iload_n 2, 1) := by decide +kernel
theorem d_Mo_goesTo_8 : decode c_Mo_goesTo 8 = .ok (.bipush 6, 2) := by decide +kernel
theorem d_Mo_goesTo_10 : decode c_Mo_goesTo 10 = .ok (.iload_n 1, 1) := by decide +kernel
theorem d_Mo_goesTo_11 : decode c_Mo_goesTo 11 = .ok (.imul, 1) := by decide +kernel
theorem d_Mo_goesTo_12 : decode c_Mo_goesTo 12 = .ok (.if_icmp .ge 146, 3) := by decide +kernel
theorem d_Mo_goesTo_15 : decode c_Mo_goesTo 15 = .ok (.aload_n 0, 1) := by decide +kernel
theorem d_Mo_goesTo_16 : decode c_Mo_goesTo 16 = .ok (.getfield 78, 3) := by decide +kernel
theorem d_Mo_goesTo_19 : decode c_Mo_goesTo 19 = .ok (.iload_n 2, 1) := by decide +kernel
theorem d_Mo_goesTo_20 : decode c_Mo_goesTo 20 = .ok (.iconst 1, 1) := by decide +kernel
theorem d_Mo_goesTo_21 : decode c_Mo_goesTo 21 = .ok (.iadd, 1) := by decide +kernel
theorem d_Mo_goesTo_22 : decode c_Mo_goesTo 22 = .ok (.iaload, 1) := by decide +kernel
theorem d_Mo_goesTo_23 : decode c_Mo_goesTo 23 = .ok (.invokestatic 283, 3) := by decide +kernel
theorem d_Mo_goesTo_26 : decode c_Mo_goesTo 26 = .ok (.istore_n 3, 1) := by decide +kernel
theorem d_Mo_goesTo_27 : decode c_Mo_goesTo 27 = .ok (.aload_n 0, 1) := by decide +kernel
theorem d_Mo_goesTo_28 : decode c_Mo_goesTo 28 = .ok (.getfield 78, 3) := by decide +kernel
theorem d_Mo_goesTo_31 : decode c_Mo_goesTo 31 = .ok (.iload_n 2, 1) := by decide +kernel
theorem d_Mo_goesTo_32 : decode c_Mo_goesTo 32 = .ok (.iconst 2, 1) := by decide +kernel
theorem d_Mo_goesTo_33 : decode c_Mo_goesTo 33 = .ok (.iadd, 1) := by decide +kernel
theorem d_Mo_goesTo_34 : decode c_Mo_goesTo 34 = .ok (.iaload, 1) := by decide +kernel
theorem d_Mo_goesTo_35 : decode c_Mo_goesTo 35 = .ok (.invokestatic 283, 3) := by decide +kernel
theorem d_Mo_goesTo_38 : decode c_Mo_goesTo 38 = .ok (.istore 4, 2) := by decide +kernel
theorem d_Mo_goesTo_40 : decode c_Mo_goesTo 40 = .ok (.aload_n 0, 1) := by decide +kernel
theorem d_Mo_goesTo_41 : decode c_Mo_goesTo 41 = .ok (.getfield 78, 3) := by decide +kernel
theorem d_Mo_goesTo_44 : decode c_Mo_goesTo 44 = .ok (.iload_n 2, 1) := by decide +kernel
theorem d_Mo_goesTo_45 : decode c_Mo_goesTo 45 = .ok (.iaload, 1) := by decide +kernel
theorem d_Mo_goesTo_46 : decode c_Mo_goesTo 46 = .ok (.ifCond .ne 20, 3) := by decide +kernel
theorem d_Mo_goesTo_49 : decode c_Mo_goesTo 49 = .ok (.aload_n 0, 1) := by decide +kernel
theorem d_Mo_goesTo_50 : decode c_Mo_goesTo 50 = .ok (.getfield 69, 3) := by decide +kernel
theorem d_Mo_goesTo_53 : decode c_Mo_goesTo 53 = .ok (.iload_n 3, 1) := by decide +kernel
theorem d_Mo_goesTo_54 : decode c_Mo_goesTo 54 = .ok (.aload_n 0, 1) := by decide +kernel
theorem d_Mo_goesTo_55 : decode c_Mo_goesTo 55 = .ok (.getfield 78, 3) := by decide +kernel
theorem d_Mo_goesTo_58 : decode c_Mo_goesTo 58 = .ok (.iload_n 2, 1) := by decide +kernel
theorem d_Mo_goesTo_59 : decode c_Mo_goesTo 59 = .ok (.iconst 5, 1) := by decide +kernel
theorem d_Mo_goesTo_60 : decode c_Mo_goesTo 60 = .ok (.iadd, 1) := by decide +kernel
theorem d_Mo_goesTo_61 : decode c_Mo_goesTo 61 = .ok (.iaload, 1) := by decide +kernel
theorem d_Mo_goesTo_62 : decode c_Mo_goesTo 62 = .ok (.iastore, 1) := by decide +kernel
theorem d_Mo_goesTo_63 : decode c_Mo_goesTo 63 = .ok (.goto 89, 3) := by decide +kernel
theorem d_Mo_goesTo_66 : decode c_Mo_goesTo 66 = .ok (.aload_n 0, 1) := by decide +kernel
theorem d_Mo_goesTo_67 : decode c_Mo_goesTo 67 = .ok (.getfield 78, 3) := by decide +kernel
theorem d_Mo_goesTo_70 : decode c_Mo_goesTo 70 = .ok (.iload_n 2, 1) := by decide +kernel
theorem d_Mo_goesTo_71 : decode c_Mo_goesTo 71 = .ok (.iaload, 1) := by decide +kernel
theorem d_Mo_goesTo_72 : decode c_Mo_goesTo 72 = .ok (.iconst 1, 1) := by decide +kernel
theorem d_Mo_goesTo_73 : decode c_Mo_goesTo 73 = .ok (.if_icmp .ne 49, 3) := by decide +kernel
theorem d_Mo_goesTo_76 : decode c_Mo_goesTo 76 = .ok (.aload_n 0, 1) := by decide +kernel
theorem d_Mo_goesTo_77 : decode c_Mo_goesTo 77 = .ok (.getfield 66, 3) := by decide +kernel
theorem d_Mo_goesTo_80 : decode c_Mo_goesTo 80 = .ok (.iload_n 3, 1) := by decide +kernel
theorem d_Mo_goesTo_81 : decode c_Mo_goesTo 81 = .ok (.aload_n 0, 1) := by decide +kernel
theorem d_Mo_goesTo_82 : decode c_Mo_goesTo 82 = .ok (.getfield 78, 3) := by decide +kernel
theorem d_Mo_goesTo_85 : decode c_Mo_goesTo 85 = .ok (.iload_n 2, 1) := by decide +kernel
theorem d_Mo_goesTo_86 : decode c_Mo_goesTo 86 = .ok (.iconst 4, 1) := by decide +kernel
theorem d_Mo_goesTo_87 : decode c_Mo_goesTo 87 = .ok (.iadd, 1) := by decide +kernel
theorem d_Mo_goesTo_88 : decode c_Mo_goesTo 88 = .ok (.iaload, 1) := by decide +kernel
theorem d_Mo_goesTo_89 : decode c_Mo_goesTo 89 = .ok (.iastore, 1) := by decide +kernel
theorem d_Mo_goesTo_90 : decode c_Mo_goesTo 90 = .ok (.aload_n 0, 1) := by decide +kernel
theorem d_Mo_goesTo_91 : decode c_Mo_goesTo 91 = .ok (.getfield 69, 3) := by decide +kernel
theorem d_Mo_goesTo_94 : decode c_Mo_goesTo 94 = .ok (.iload_n 3, 1) := by decide +kernel
theorem d_Mo_goesTo_95 : decode c_Mo_goesTo 95 = .ok (.aload_n 0, 1) := by decide +kernel
theorem d_Mo_goesTo_96 : decode c_Mo_goesTo 96 = .ok (.getfield 78, 3) := by decide +kernel
theorem d_Mo_goesTo_99 : decode c_Mo_goesTo 99 = .ok (.iload_n 2, 1) := by decide +kernel
theorem d_Mo_goesTo_100 : decode c_Mo_goesTo 100 = .ok (.iconst 5, 1) := by decide +kernel
theorem d_Mo_goesTo_101 : decode c_Mo_goesTo 101 = .ok (.iadd, 1) := by decide +kernel
theorem d_Mo_goesTo_102 : decode c_Mo_goesTo 102 = .ok (.iaload, 1) := by decide +kernel
theorem d_Mo_goesTo_103 : decode c_Mo_goesTo 103 = .ok (.iastore, 1) := by decide +kernel
theorem d_Mo_goesTo_104 : decode c_Mo_goesTo 104 = .ok (.aload_n 0, 1) := by decide +kernel
theorem d_Mo_goesTo_105 : decode c_Mo_goesTo 105 = .ok (.iload_n 3, 1) := by decide +kernel
theorem d_Mo_goesTo_106 : decode c_Mo_goesTo 106 = .ok (.iload 4, 2) := by decide +kernel
theorem d_Mo_goesTo_108 : decode c_Mo_goesTo 108 = .ok (.aload_n 0, 1) := by decide +kernel
theorem d_Mo_goesTo_109 : decode c_Mo_goesTo 109 = .ok (.getfield 78, 3) := by decide +kernel
theorem d_Mo_goesTo_112 : decode c_Mo_goesTo 112 = .ok (.iload_n 2, 1) := by decide +kernel
theorem d_Mo_goesTo_113 : decode c_Mo_goesTo 113 = .ok (.iconst 3, 1) := by decide +kernel
theorem d_Mo_goesTo_114 : decode c_Mo_goesTo 114 = .ok (.iadd, 1) := by decide +kernel
theorem d_Mo_goesTo_115 : decode c_Mo_goesTo 115 = .ok (.iaload, 1) := by decide +kernel
theorem d_Mo_goesTo_116 : decode c_Mo_goesTo 116 = .ok (.invokevirtual 219, 3) := by decide +kernel
theorem d_Mo_goesTo_119 : decode c_Mo_goesTo 119 = .ok (.goto 33, 3) := by decide +kernel
theorem d_Mo_goesTo_122 : decode c_Mo_goesTo 122 = .ok (.aload_n 0, 1) := by decide +kernel
theorem d_Mo_goesTo_123 : decode c_Mo_goesTo 123 = .ok (.iload_n 3, 1) := by decide +kernel
theorem d_Mo_goesTo_124 : decode c_Mo_goesTo 124 = .ok (.invokevirtual 234, 3) := by decide +kernel
theorem d_Mo_goesTo_127 : decode c_Mo_goesTo 127 = .ok (.aload_n 0, 1) := by decide +kernel
theorem d_Mo_goesTo_128 : decode c_Mo_goesTo 128 = .ok (.getfield 78, 3) := by decide +kernel
theorem d_Mo_goesTo_131 : decode c_Mo_goesTo 131 = .ok (.iload_n 2, 1) := by decide +kernel
theorem d_Mo_goesTo_132 : decode c_Mo_goesTo 132 = .ok (.iaload, 1) := by decide +kernel
theorem d_Mo_goesTo_133 : decode c_Mo_goesTo 133 = .ok (.iconst 2, 1) := by decide +kernel
theorem d_Mo_goesTo_134 : decode c_Mo_goesTo 134 = .ok (.if_icmp .ne 18, 3) := by decide +kernel
theorem d_Mo_goesTo_137 : decode c_Mo_goesTo 137 = .ok (.aload_n 0, 1) := by decide +kernel
theorem d_Mo_goesTo_138 : decode c_Mo_goesTo 138 = .ok (.iload_n 3, 1) := by decide +kernel
theorem d_Mo_goesTo_139 : decode c_Mo_goesTo 139 = .ok (.iload 4, 2) := by decide +kernel
theorem d_Mo_goesTo_141 : decode c_Mo_goesTo 141 = .ok (.aload_n 0, 1) := by decide +kernel
theorem d_Mo_goesTo_142 : decode c_Mo_goesTo 142 = .ok (.getfield 78, 3) := by decide +kernel
theorem d_Mo_goesTo_145 : decode c_Mo_goesTo 145 = .ok (.iload_n 2, 1) := by decide +kernel
theorem d_Mo_goesTo_146 : decode c_Mo_goesTo 146 = .ok (.iconst 3, 1) := by decide +kernel
theorem d_Mo_goesTo_147 : decode c_Mo_goesTo 147 = .ok (.iadd, 1) := by decide +kernel
theorem d_Mo_goesTo_148 : decode c_Mo_goesTo 148 = .ok (.iaload, 1) := by decide +kernel
theorem d_Mo_goesTo_149 : decode c_Mo_goesTo 149 = .ok (.invokevirtual 219, 3) := by decide +kernel
theorem d_Mo_goesTo_152 : decode c_Mo_goesTo 152 = .ok (.iinc 2 6, 3) := by decide +kernel
theorem d_Mo_goesTo_155 : decode c_Mo_goesTo 155 = .ok (.goto (-148), 3) := by decide +kernel
theorem d_Mo_goesTo_158 : decode c_Mo_goesTo 158 = .ok (.aload_n 0, 1) := by decide +kernel
theorem d_Mo_goesTo_159 : decode c_Mo_goesTo 159 = .ok (.iload_n 1, 1) := by decide +kernel
theorem d_Mo_goesTo_160 : decode c_Mo_goesTo 160 = .ok (.putfield 274, 3) := by decide +kernel
theorem d_Mo_goesTo_163 : decode c_Mo_goesTo 163 = .ok (.return_, 1) := by decide +kernel
theorem d_Mo_steps_0 : decode c_Mo_steps 0 = .ok (.aload_n 0, 1) := by decide +kernel
theorem d_Mo_steps_1 : decode c_Mo_steps 1 = .ok (.invokevirtual 216, 3) := by decide +kernel
theorem d_Mo_steps_4 : decode c_Mo_steps 4 = .ok (.aload_n 0, 1) := by decide +kernel
theorem d_Mo_steps_5 : decode c_Mo_steps 5 = .ok (.getfield 225, 3) := by decide +kernel
theorem d_Mo_steps_8 : decode c_Mo_steps 8 = .ok (.ireturn, 1) := by decide +kernel
theorem d_Mo_step_0 : decode c_Mo_step 0 = .ok (.aload_n 0, 1) := by decide +kernel
theorem d_Mo_step_1 : decode c_Mo_step 1 = .ok (.invokevirtual 216, 3) := by decide +kernel
theorem d_Mo_step_4 : decode c_Mo_step 4 = .ok (.iload_n 1, 1) := by decide +kernel
theorem d_Mo_step_5 : decode c_Mo_step 5 = .ok (.iconst 0, 1) := by decide +kernel
theorem d_Mo_step_6 : decode c_Mo_step 6 = .ok (.aload_n 0, 1) := by decide +kernel
theorem d_Mo_step_7 : decode c_Mo_step 7 = .ok (.getfield 225, 3) := by decide +kernel
theorem d_Mo_step_10 : decode c_Mo_step 10 = .ok (.iconst 1, 1) := by decide +kernel
theorem d_Mo_step_11 : decode c_Mo_step 11 = .ok (.isub, 1) := by decide +kernel
theorem d_Mo_step_12 : decode c_Mo_step 12 = .ok (.invokestatic 121, 3) := by decide +kernel
theorem d_Mo_step_15 : decode c_Mo_step 15 = .ok (.ifCond .ne 6, 3) := by decide +kernel
theorem d_Mo_step_18 : decode c_Mo_step 18 = .ok (.bipush (-11), 2) := by decide +kernel
theorem d_Mo_step_20 : decode c_Mo_step 20 = .ok (.ireturn, 1) := by decide +kernel
theorem d_Mo_step_21 : decode c_Mo_step 21 = .ok (.iload_n 2, 1) := by decide +kernel
theorem d_Mo_step_22 : decode c_Mo_step 22 = .ok (.iconst 0, 1) := by decide +kernel
theorem d_Mo_step_23 : decode c_Mo_step 23 = .ok (.iconst 5, 1) := by decide +kernel
theorem d_Mo_step_24 : decode c_Mo_step 24 = .ok (.invokestatic 121, 3) := by decide +kernel
theorem d_Mo_step_27 : decode c_Mo_step 27 = .ok (.ifCond .eq 17, 3) := by decide +kernel
theorem d_Mo_step_30 : decode c_Mo_step 30 = .ok (.aload_n 0, 1) := by decide +kernel
theorem d_Mo_step_31 : decode c_Mo_step 31 = .ok (.getfield 78, 3) := by decide +kernel
theorem d_Mo_step_34 : decode c_Mo_step 34 = .ok (.bipush 6, 2) := by decide +kernel
theorem d_Mo_step_36 : decode c_Mo_step 36 = .ok (.iload_n 1, 1) := by decide +kernel
theorem d_Mo_step_37 : decode c_Mo_step 37 = .ok (.imul, 1) := by decide +kernel
theorem d_Mo_step_38 : decode c_Mo_step 38 = .ok (.iload_n 2, 1) := by decide +kernel
theorem d_Mo_step_39 : decode c_Mo_step 39 = .ok (.iadd, 1) := by decide +kernel
theorem d_Mo_step_40 : decode c_Mo_step 40 = .ok (.iaload, 1) := by decide +kernel
theorem d_Mo_step_41 : decode c_Mo_step 41 = .ok (.goto 5, 3) := by decide +kernel
theorem d_Mo_step_44 : decode c_Mo_step 44 = .ok (.bipush (-12), 2) := by decide +kernel
theorem d_Mo_step_46 : decode c_Mo_step 46 = .ok (.ireturn, 1) := by decide +kernel
theorem d_Mo_count_0 : decode c_Mo_count 0 = .ok (.iload_n 1, 1) := by decide +kernel
theorem d_Mo_count_1 : decode c_Mo_count 1 = .ok (.iconst 0, 1) := by decide +kernel
theorem d_Mo_count_2 : decode c_Mo_count 2 = .ok (.iconst 3, 1) := by decide +kernel
theorem d_Mo_count_3 : decode c_Mo_count 3 = .ok (.invokestatic 121, 3) := by decide +kernel
theorem d_Mo_count_6 : decode c_Mo_count 6 = .ok (.ifCond .ne 6, 3) := by decide +kernel
theorem d_Mo_count_9 : decode c_Mo_count 9 = .ok (.bipush (-12), 2) := by decide +kernel
theorem d_Mo_count_11 : decode c_Mo_count 11 = .ok (.ireturn, 1) := by decide +kernel
theorem d_Mo_count_12 : decode c_Mo_count 12 = .ok (.aload_n 0, 1) := by decide +kernel
theorem d_Mo_count_13 : decode c_Mo_count 13 = .ok (.invokevirtual 216, 3) := by decide +kernel
theorem d_Mo_count_16 : decode c_Mo_count 16 = .ok (.iconst 0, 1) := by decide +kernel
theorem d_Mo_count_17 : decode c_Mo_count 17 = .ok (.istore_n 2, 1) := by decide +kernel
theorem d_Mo_count_18 : decode c_Mo_count 18 = .ok (.iconst 0, 1) := by decide +kernel
theorem d_Mo_count_19 : decode c_Mo_count 19 = .ok (.istore_n 3, 1) := by decide +kernel
theorem d_Mo_count_20 : decode c_Mo_count 20 = .ok (.iload_n 3, 1) := by decide +kernel
theorem d_Mo_count_21 : decode c_Mo_count 21 = .ok (.aload_n 0, 1) := by decide +kernel
theorem d_Mo_count_22 : decode c_Mo_count 22 = .ok (.getfield 225, 3) := by decide +kernel
theorem d_Mo_count_25 : decode c_Mo_count 25 = .ok (.if_icmp .ge 30, 3) := by decide +kernel
theorem d_Mo_count_28 : decode c_Mo_count 28 = .ok (.iload_n 2, 1) := by decide +kernel
theorem d_Mo_count_29 : decode c_Mo_count 29 = .ok (.aload_n 0, 1) := by decide +kernel
theorem d_Mo_count_30 : decode c_Mo_count 30 = .ok (.getfield 78, 3) := by decide +kernel
theorem d_Mo_count_33 : decode c_Mo_count 33 = .ok (.bipush 6, 2) := by decide +kernel
theorem d_Mo_count_35 : decode c_Mo_count 35 = .ok (.iload_n 3, 1) := by decide +kernel
theorem d_Mo_count_36 : decode c_Mo_count 36 = .ok (.imul, 1) := by decide +kernel
theorem d_Mo_count_37 : decode c_Mo_count 37 = .ok (.iaload, 1) := by decide +kernel
theorem d_Mo_count_38 : decode c_Mo_count 38 = .ok (.iload_n 1, 1) := by decide +kernel
theorem d_Mo_count_39 : decode c_Mo_count 39 = .ok (.if_icmp .ne 7, 3) := by decide +kernel
theorem d_Mo_count_42 : decode c_Mo_count 42 = .ok (.iconst 1, 1) := by decide +kernel
theorem d_Mo_count_43 : decode c_Mo_count 43 = .ok (.goto 4, 3) := by decide +kernel
theorem d_Mo_count_46 : decode c_Mo_count 46 = .ok (.iconst 0, 1) := by decide +kernel
theorem d_Mo_count_47 : decode c_Mo_count 47 = .ok (.iadd, 1) := by decide +kernel
theorem d_Mo_count_48 : decode c_Mo_count 48 = .ok (.istore_n 2, 1) := by decide +kernel
theorem d_Mo_count_49 : decode c_Mo_count 49 = .ok (.iinc 3 1, 3) := by decide +kernel
theorem d_Mo_count_52 : decode c_Mo_count 52 = .ok (.goto (-32), 3) := by decide +kernel
theorem d_Mo_count_55 : decode c_Mo_count 55 = .ok (.iload_n 2, 1) := by decide +kernel
theorem d_Mo_count_56 : decode c_Mo_count 56 = .ok (.ireturn, 1) := by decide +kernel
theorem d_Mo_findLefts_0 : decode c_Mo_findLefts 0 = .ok (.aload_n 0, 1) := by decide +kernel
theorem d_Mo_findLefts_1 : decode c_Mo_findLefts 1 = .ok (.iload_n 1, 1) := by decide +kernel
theorem d_Mo_findLefts_2 : decode c_Mo_findLefts 2 = .ok (.invokevirtual 209, 3) := by decide +kernel
theorem d_Mo_findLefts_5 : decode c_Mo_findLefts 5 = .ok (.iconst 0, 1) := by decide +kernel
theorem d_Mo_findLefts_6 : decode c_Mo_findLefts 6 = .ok (.istore_n 2, 1) := by decide +kernel
theorem d_Mo_findLefts_7 : decode c_Mo_findLefts 7 = .ok (.iload_n 2, 1) := by decide +kernel
theorem d_Mo_findLefts_8 : decode c_Mo_findLefts 8 = .ok (.aload_n 0, 1) := by decide +kernel
theorem d_Mo_findLefts_9 : decode c_Mo_findLefts 9 = .ok (.getfield 7, 3) := by decide +kernel
theorem d_Mo_findLefts_12 : decode c_Mo_findLefts 12 = .ok (.iload_n 1, 1) := by decide +kernel
theorem d_Mo_findLefts_13 : decode c_Mo_findLefts 13 = .ok (.iaload, 1) := by decide +kernel
theorem d_Mo_findLefts_14 : decode c_Mo_findLefts 14 = .ok (.if_icmp .ge 50, 3) := by decide +kernel
theorem d_Mo_findLefts_17 : decode c_Mo_findLefts 17 = .ok (.aload_n 0, 1) := by decide +kernel
theorem d_Mo_findLefts_18 : decode c_Mo_findLefts 18 = .ok (.getfield 93, 3) := by decide +kernel
theorem d_Mo_findLefts_21 : decode c_Mo_findLefts 21 = .ok (.iload_n 1, 1) := by decide +kernel
theorem d_Mo_findLefts_22 : decode c_Mo_findLefts 22 = .ok (.iload_n 2, 1) := by decide +kernel
theorem d_Mo_findLefts_23 : decode c_Mo_findLefts 23 = .ok (.invokestatic 114, 3) := by decide +kernel
theorem d_Mo_findLefts_26 : decode c_Mo_findLefts 26 = .ok (.aload_n 0, 1) := by decide +kernel
theorem d_Mo_findLefts_27 : decode c_Mo_findLefts 27 = .ok (.getfield 60, 3) := by decide +kernel
theorem d_Mo_findLefts_30 : decode c_Mo_findLefts 30 = .ok (.iload_n 2, 1) := by decide +kernel
theorem d_Mo_findLefts_31 : decode c_Mo_findLefts 31 = .ok (.iaload, 1) := by decide +kernel
theorem d_Mo_findLefts_32 : decode c_Mo_findLefts 32 = .ok (.iastore, 1) := by decide +kernel
theorem d_Mo_findLefts_33 : decode c_Mo_findLefts 33 = .ok (.aload_n 0, 1) := by decide +kernel
theorem d_Mo_findLefts_34 : decode c_Mo_findLefts 34 = .ok (.getfield 96, 3) := by decide +kernel
theorem d_Mo_findLefts_37 : decode c_Mo_findLefts 37 = .ok (.iload_n 1, 1) := by decide +kernel
theorem d_Mo_findLefts_38 : decode c_Mo_findLefts 38 = .ok (.iload_n 2, 1) := by decide +kernel
theorem d_Mo_findLefts_39 : decode c_Mo_findLefts 39 = .ok (.invokestatic 114, 3) := by decide +kernel
theorem d_Mo_findLefts_42 : decode c_Mo_findLefts 42 = .ok (.iload_n 2, 1) := by decide +kernel
theorem d_Mo_findLefts_43 : decode c_Mo_findLefts 43 = .ok (.iconst 1, 1) := by decide +kernel
theorem d_Mo_findLefts_44 : decode c_Mo_findLefts 44 = .ok (.iadd, 1) := by decide +kernel
theorem d_Mo_findLefts_45 : decode c_Mo_findLefts 45 = .ok (.aload_n 0, 1) := by decide +kernel
theorem d_Mo_findLefts_46 : decode c_Mo_findLefts 46 = .ok (.iload_n 1, 1) := by decide +kernel
theorem d_Mo_findLefts_47 : decode c_Mo_findLefts 47 = .ok (.aload_n 0, 1) := by decide +kernel
theorem d_Mo_findLefts_48 : decode c_Mo_findLefts 48 = .ok (.getfield 60, 3) := by decide +kernel
theorem d_Mo_findLefts_51 : decode c_Mo_findLefts 51 = .ok (.iload_n 2, 1) := by decide +kernel
theorem d_Mo_findLefts_52 : decode c_Mo_findLefts 52 = .ok (.iaload, 1) := by decide +kernel
theorem d_Mo_findLefts_53 : decode c_Mo_findLefts 53 = .ok (.invokevirtual 163, 3) := by decide +kernel
theorem d_Mo_findLefts_56 : decode c_Mo_findLefts 56 = .ok (.isub, 1) := by decide +kernel
theorem d_Mo_findLefts_57 : decode c_Mo_findLefts 57 = .ok (.iastore, 1) := by decide +kernel
theorem d_Mo_findLefts_58 : decode c_Mo_findLefts 58 = .ok (.iinc 2 1, 3) := by decide +kernel
theorem d_Mo_findLefts_61 : decode c_Mo_findLefts 61 = .ok (.goto (-54), 3) := by decide +kernel
theorem d_Mo_findLefts_64 : decode c_Mo_findLefts 64 = .ok (.return_, 1) := by decide +kernel
theorem d_Mo_least_0 : decode c_Mo_least 0 = .ok (.iload_n 0, 1) := by decide +kernel
theorem d_Mo_least_1 : decode c_Mo_least 1 = .ok (.iload_n 1, 1) := by decide +kernel
theorem d_Mo_least_2 : decode c_Mo_least 2 = .ok (.if_icmp .ge 7, 3) := by decide +kernel
theorem d_Mo_least_5 : decode c_Mo_least 5 = .ok (.iload_n 0, 1) := by decide +kernel
theorem d_Mo_least_6 : decode c_Mo_least 6 = .ok (.goto 4, 3) := by decide +kernel
theorem d_Mo_least_9 : decode c_Mo_least 9 = .ok (.iload_n 1, 1) := by decide +kernel
theorem d_Mo_least_10 : decode c_Mo_least 10 = .ok (.ireturn, 1) := by decide +kernel
theorem d_Mo_isKey_0 : decode c_Mo_isKey 0 = .ok (.iconst 1, 1) := by decide +kernel
theorem d_Mo_isKey_1 : decode c_Mo_isKey 1 = .ok (.istore_n 3, 1) := by decide +kernel
theorem d_Mo_isKey_2 : decode c_Mo_isKey 2 = .ok (.iload_n 2, 1) := by decide +kernel
theorem d_Mo_isKey_3 : decode c_Mo_isKey 3 = .ok (.iconst 1, 1) := by decide +kernel
theorem d_Mo_isKey_4 : decode c_Mo_isKey 4 = .ok (.iadd, 1) := by decide +kernel
theorem d_Mo_isKey_5 : decode c_Mo_isKey 5 = .ok (.istore 4, 2) := by decide +kernel
theorem d_Mo_isKey_7 : decode c_Mo_isKey 7 = .ok (.iload 4, 2) := by decide +kernel
theorem d_Mo_isKey_9 : decode c_Mo_isKey 9 = .ok (.aload_n 0, 1) := by decide +kernel
theorem d_Mo_isKey_10 : decode c_Mo_isKey 10 = .ok (.getfield 7, 3) := by decide +kernel
theorem d_Mo_isKey_13 : decode c_Mo_isKey 13 = .ok (.iload_n 1, 1) := by decide +kernel
theorem d_Mo_isKey_14 : decode c_Mo_isKey 14 = .ok (.iaload, 1) := by decide +kernel
theorem d_Mo_isKey_15 : decode c_Mo_isKey 15 = .ok (.if_icmp .ge 43, 3) := by decide +kernel
theorem d_Mo_isKey_18 : decode c_Mo_isKey 18 = .ok (.iload_n 3, 1) := by decide +kernel
theorem d_Mo_isKey_19 : decode c_Mo_isKey 19 = .ok (.ifCond .eq 31, 3) := by decide +kernel
theorem d_Mo_isKey_22 : decode c_Mo_isKey 22 = .ok (.aload_n 0, 1) := by decide +kernel
theorem d_Mo_isKey_23 : decode c_Mo_isKey 23 = .ok (.getfield 96, 3) := by decide +kernel
theorem d_Mo_isKey_26 : decode c_Mo_isKey 26 = .ok (.iload_n 1, 1) := by decide +kernel
theorem d_Mo_isKey_27 : decode c_Mo_isKey 27 = .ok (.iload 4, 2) := by decide +kernel
theorem d_Mo_isKey_29 : decode c_Mo_isKey 29 = .ok (.invokestatic 114, 3) := by decide +kernel
theorem d_Mo_isKey_32 : decode c_Mo_isKey 32 = .ok (.iaload, 1) := by decide +kernel
theorem d_Mo_isKey_33 : decode c_Mo_isKey 33 = .ok (.aload_n 0, 1) := by decide +kernel
theorem d_Mo_isKey_34 : decode c_Mo_isKey 34 = .ok (.getfield 96, 3) := by decide +kernel
theorem d_Mo_isKey_37 : decode c_Mo_isKey 37 = .ok (.iload_n 1, 1) := by decide +kernel
theorem d_Mo_isKey_38 : decode c_Mo_isKey 38 = .ok (.iload_n 2, 1) := by decide +kernel
theorem d_Mo_isKey_39 : decode c_Mo_isKey 39 = .ok (.invokestatic 114, 3) := by decide +kernel
theorem d_Mo_isKey_42 : decode c_Mo_isKey 42 = .ok (.iaload, 1) := by decide +kernel
theorem d_Mo_isKey_43 : decode c_Mo_isKey 43 = .ok (.if_icmp .eq 7, 3) := by decide +kernel
theorem d_Mo_isKey_46 : decode c_Mo_isKey 46 = .ok (.iconst 1, 1) := by decide +kernel
theorem d_Mo_isKey_47 : decode c_Mo_isKey 47 = .ok (.goto 4, 3) := by decide +kernel
theorem d_Mo_isKey_50 : decode c_Mo_isKey 50 = .ok (.iconst 0, 1) := by decide +kernel
theorem d_Mo_isKey_51 : decode c_Mo_isKey 51 = .ok (.istore_n 3, 1) := by decide +kernel
theorem d_Mo_isKey_52 : decode c_Mo_isKey 52 = .ok (.iinc 4 1, 3) := by decide +kernel
theorem d_Mo_isKey_55 : decode c_Mo_isKey 55 = .ok (.goto (-48), 3) := by decide +kernel
theorem d_Mo_isKey_58 : decode c_Mo_isKey 58 = .ok (.iload_n 3, 1) := by decide +kernel
theorem d_Mo_isKey_59 : decode c_Mo_isKey 59 = .ok (.ireturn, 1) := by decide +kernel
theorem d_Mo_renaming_0 : decode c_Mo_renaming 0 = .ok (.iconst 0, 1) := by decide +kernel
theorem d_Mo_renaming_1 : decode c_Mo_renaming 1 = .ok (.aload_n 0, 1) := by decide +kernel
theorem d_Mo_renaming_2 : decode c_Mo_renaming 2 = .ok (.getfield 93, 3) := by decide +kernel
theorem d_Mo_renaming_5 : decode c_Mo_renaming 5 = .ok (.iconst 0, 1) := by decide +kernel
theorem d_Mo_renaming_6 : decode c_Mo_renaming 6 = .ok (.iload_n 1, 1) := by decide +kernel
theorem d_Mo_renaming_7 : decode c_Mo_renaming 7 = .ok (.invokestatic 114, 3) := by decide +kernel
theorem d_Mo_renaming_10 : decode c_Mo_renaming 10 = .ok (.iaload, 1) := by decide +kernel
theorem d_Mo_renaming_11 : decode c_Mo_renaming 11 = .ok (.invokestatic 114, 3) := by decide +kernel
theorem d_Mo_renaming_14 : decode c_Mo_renaming 14 = .ok (.istore_n 3, 1) := by decide +kernel
theorem d_Mo_renaming_15 : decode c_Mo_renaming 15 = .ok (.iconst 1, 1) := by decide +kernel
theorem d_Mo_renaming_16 : decode c_Mo_renaming 16 = .ok (.aload_n 0, 1) := by decide +kernel
theorem d_Mo_renaming_17 : decode c_Mo_renaming 17 = .ok (.getfield 93, 3) := by decide +kernel
theorem d_Mo_renaming_20 : decode c_Mo_renaming 20 = .ok (.iconst 1, 1) := by decide +kernel
theorem d_Mo_renaming_21 : decode c_Mo_renaming 21 = .ok (.iload_n 2, 1) := by decide +kernel
theorem d_Mo_renaming_22 : decode c_Mo_renaming 22 = .ok (.invokestatic 114, 3) := by decide +kernel
theorem d_Mo_renaming_25 : decode c_Mo_renaming 25 = .ok (.iaload, 1) := by decide +kernel
theorem d_Mo_renaming_26 : decode c_Mo_renaming 26 = .ok (.invokestatic 114, 3) := by decide +kernel
theorem d_Mo_renaming_29 : decode c_Mo_renaming 29 = .ok (.istore 4, 2) := by decide +kernel
theorem d_Mo_renaming_31 : decode c_Mo_renaming 31 = .ok (.aload_n 0, 1) := by decide +kernel
theorem d_Mo_renaming_32 : decode c_Mo_renaming 32 = .ok (.getfield 13, 3) := by decide +kernel
theorem d_Mo_renaming_35 : decode c_Mo_renaming 35 = .ok (.iload_n 3, 1) := by decide +kernel
theorem d_Mo_renaming_36 : decode c_Mo_renaming 36 = .ok (.iaload, 1) := by decide +kernel
theorem d_Mo_renaming_37 : decode c_Mo_renaming 37 = .ok (.aload_n 0, 1) := by decide +kernel
theorem d_Mo_renaming_38 : decode c_Mo_renaming 38 = .ok (.getfield 13, 3) := by decide +kernel
theorem d_Mo_renaming_41 : decode c_Mo_renaming 41 = .ok (.iload 4, 2) := by decide +kernel
theorem d_Mo_renaming_43 : decode c_Mo_renaming 43 = .ok (.iaload, 1) := by decide +kernel
theorem d_Mo_renaming_44 : decode c_Mo_renaming 44 = .ok (.if_icmp .ne 23, 3) := by decide +kernel
theorem d_Mo_renaming_47 : decode c_Mo_renaming 47 = .ok (.aload_n 0, 1) := by decide +kernel
theorem d_Mo_renaming_48 : decode c_Mo_renaming 48 = .ok (.getfield 16, 3) := by decide +kernel
theorem d_Mo_renaming_51 : decode c_Mo_renaming 51 = .ok (.iload_n 3, 1) := by decide +kernel
theorem d_Mo_renaming_52 : decode c_Mo_renaming 52 = .ok (.iaload, 1) := by decide +kernel
theorem d_Mo_renaming_53 : decode c_Mo_renaming 53 = .ok (.aload_n 0, 1) := by decide +kernel
theorem d_Mo_renaming_54 : decode c_Mo_renaming 54 = .ok (.getfield 16, 3) := by decide +kernel
theorem d_Mo_renaming_57 : decode c_Mo_renaming 57 = .ok (.iload 4, 2) := by decide +kernel
theorem d_Mo_renaming_59 : decode c_Mo_renaming 59 = .ok (.iaload, 1) := by decide +kernel
theorem d_Mo_renaming_60 : decode c_Mo_renaming 60 = .ok (.if_icmp .ne 7, 3) := by decide +kernel
theorem d_Mo_renaming_63 : decode c_Mo_renaming 63 = .ok (.iconst 0, 1) := by decide +kernel
theorem d_Mo_renaming_64 : decode c_Mo_renaming 64 = .ok (.goto 4, 3) := by decide +kernel
theorem d_Mo_renaming_67 : decode c_Mo_renaming 67 = .ok (.iconst 1, 1) := by decide +kernel
theorem d_Mo_renaming_68 : decode c_Mo_renaming 68 = .ok (.ireturn, 1) := by decide +kernel
theorem d_Mo_compares_0 : decode c_Mo_compares 0 = .ok (.aload_n 0, 1) := by decide +kernel
theorem d_Mo_compares_1 : decode c_Mo_compares 1 = .ok (.getfield 96, 3) := by decide +kernel
theorem d_Mo_compares_4 : decode c_Mo_compares 4 = .ok (.iconst 0, 1) := by decide +kernel
theorem d_Mo_compares_5 : decode c_Mo_compares 5 = .ok (.iload_n 1, 1) := by decide +kernel
theorem d_Mo_compares_6 : decode c_Mo_compares 6 = .ok (.invokestatic 114, 3) := by decide +kernel
theorem d_Mo_compares_9 : decode c_Mo_compares 9 = .ok (.iaload, 1) := by decide +kernel
theorem d_Mo_compares_10 : decode c_Mo_compares 10 = .ok (.istore_n 3, 1) := by decide +kernel
theorem d_Mo_compares_11 : decode c_Mo_compares 11 = .ok (.aload_n 0, 1) := by decide +kernel
theorem d_Mo_compares_12 : decode c_Mo_compares 12 = .ok (.getfield 96, 3) := by decide +kernel
theorem d_Mo_compares_15 : decode c_Mo_compares 15 = .ok (.iconst 1, 1) := by decide +kernel
theorem d_Mo_compares_16 : decode c_Mo_compares 16 = .ok (.iload_n 2, 1) := by decide +kernel
theorem d_Mo_compares_17 : decode c_Mo_compares 17 = .ok (.invokestatic 114, 3) := by decide +kernel
theorem d_Mo_compares_20 : decode c_Mo_compares 20 = .ok (.iaload, 1) := by decide +kernel
theorem d_Mo_compares_21 : decode c_Mo_compares 21 = .ok (.istore 4, 2) := by decide +kernel
theorem d_Mo_compares_23 : decode c_Mo_compares 23 = .ok (.iload_n 3, 1) := by decide +kernel
theorem d_Mo_compares_24 : decode c_Mo_compares 24 = .ok (.iconst 1, 1) := by decide +kernel
theorem d_Mo_compares_25 : decode c_Mo_compares 25 = .ok (.isub, 1) := by decide +kernel
theorem d_Mo_compares_26 : decode c_Mo_compares 26 = .ok (.istore 5, 2) := by decide +kernel
theorem d_Mo_compares_28 : decode c_Mo_compares 28 = .ok (.iload 5, 2) := by decide +kernel
theorem d_Mo_compares_30 : decode c_Mo_compares 30 = .ok (.iload_n 1, 1) := by decide +kernel
theorem d_Mo_compares_31 : decode c_Mo_compares 31 = .ok (.if_icmp .gt 266, 3) := by decide +kernel
theorem d_Mo_compares_34 : decode c_Mo_compares 34 = .ok (.iload 4, 2) := by decide +kernel
theorem d_Mo_compares_36 : decode c_Mo_compares 36 = .ok (.iconst 1, 1) := by decide +kernel
theorem d_Mo_compares_37 : decode c_Mo_compares 37 = .ok (.isub, 1) := by decide +kernel
theorem d_Mo_compares_38 : decode c_Mo_compares 38 = .ok (.istore 6, 2) := by decide +kernel
theorem d_Mo_compares_40 : decode c_Mo_compares 40 = .ok (.iload 6, 2) := by decide +kernel
theorem d_Mo_compares_42 : decode c_Mo_compares 42 = .ok (.iload_n 2, 1) := by decide +kernel
theorem d_Mo_compares_43 : decode c_Mo_compares 43 = .ok (.if_icmp .gt 248, 3) := by decide +kernel
theorem d_Mo_compares_46 : decode c_Mo_compares 46 = .ok (.bipush 25, 2) := by decide +kernel
theorem d_Mo_compares_48 : decode c_Mo_compares 48 = .ok (.iload 5, 2) := by decide +kernel
theorem d_Mo_compares_50 : decode c_Mo_compares 50 = .ok (.iconst 1, 1) := by decide +kernel
theorem d_Mo_compares_51 : decode c_Mo_compares 51 = .ok (.iadd, 1) := by decide +kernel
theorem d_Mo_compares_52 : decode c_Mo_compares 52 = .ok (.iload_n 3, 1) := by decide +kernel
theorem d_Mo_compares_53 : decode c_Mo_compares 53 = .ok (.isub, 1) := by decide +kernel
theorem d_Mo_compares_54 : decode c_Mo_compares 54 = .ok (.imul, 1) := by decide +kernel
theorem d_Mo_compares_55 : decode c_Mo_compares 55 = .ok (.iload 6, 2) := by decide +kernel
theorem d_Mo_compares_57 : decode c_Mo_compares 57 = .ok (.iadd, 1) := by decide +kernel
theorem d_Mo_compares_58 : decode c_Mo_compares 58 = .ok (.iconst 1, 1) := by decide +kernel
theorem d_Mo_compares_59 : decode c_Mo_compares 59 = .ok (.iadd, 1) := by decide +kernel
theorem d_Mo_compares_60 : decode c_Mo_compares 60 = .ok (.iload 4, 2) := by decide +kernel
theorem d_Mo_compares_62 : decode c_Mo_compares 62 = .ok (.isub, 1) := by decide +kernel
theorem d_Mo_compares_63 : decode c_Mo_compares 63 = .ok (.istore 7, 2) := by decide +kernel
theorem d_Mo_compares_65 : decode c_Mo_compares 65 = .ok (.iload 5, 2) := by decide +kernel
theorem d_Mo_compares_67 : decode c_Mo_compares 67 = .ok (.iload_n 3, 1) := by decide +kernel
theorem d_Mo_compares_68 : decode c_Mo_compares 68 = .ok (.if_icmp .lt 10, 3) := by decide +kernel
theorem d_Mo_compares_71 : decode c_Mo_compares 71 = .ok (.iload 6, 2) := by decide +kernel
theorem d_Mo_compares_73 : decode c_Mo_compares 73 = .ok (.iload 4, 2) := by decide +kernel
theorem d_Mo_compares_75 : decode c_Mo_compares 75 = .ok (.if_icmp .ge 27, 3) := by decide +kernel
theorem d_Mo_compares_78 : decode c_Mo_compares 78 = .ok (.aload_n 0, 1) := by decide +kernel
theorem d_Mo_compares_79 : decode c_Mo_compares 79 = .ok (.getfield 102, 3) := by decide +kernel
theorem d_Mo_compares_82 : decode c_Mo_compares 82 = .ok (.iload 7, 2) := by decide +kernel
theorem d_Mo_compares_84 : decode c_Mo_compares 84 = .ok (.iload 5, 2) := by decide +kernel
theorem d_Mo_compares_86 : decode c_Mo_compares 86 = .ok (.iconst 1, 1) := by decide +kernel
theorem d_Mo_compares_87 : decode c_Mo_compares 87 = .ok (.iadd, 1) := by decide +kernel
theorem d_Mo_compares_88 : decode c_Mo_compares 88 = .ok (.iload_n 3, 1) := by decide +kernel
theorem d_Mo_compares_89 : decode c_Mo_compares 89 = .ok (.isub, 1) := by decide +kernel
theorem d_Mo_compares_90 : decode c_Mo_compares 90 = .ok (.iload 6, 2) := by decide +kernel
theorem d_Mo_compares_92 : decode c_Mo_compares 92 = .ok (.iadd, 1) := by decide +kernel
theorem d_Mo_compares_93 : decode c_Mo_compares 93 = .ok (.iconst 1, 1) := by decide +kernel
theorem d_Mo_compares_94 : decode c_Mo_compares 94 = .ok (.iadd, 1) := by decide +kernel
theorem d_Mo_compares_95 : decode c_Mo_compares 95 = .ok (.iload 4, 2) := by decide +kernel
theorem d_Mo_compares_97 : decode c_Mo_compares 97 = .ok (.isub, 1) := by decide +kernel
theorem d_Mo_compares_98 : decode c_Mo_compares 98 = .ok (.iastore, 1) := by decide +kernel
theorem d_Mo_compares_99 : decode c_Mo_compares 99 = .ok (.goto 186, 3) := by decide +kernel
theorem d_Mo_compares_102 : decode c_Mo_compares 102 = .ok (.aload_n 0, 1) := by decide +kernel
theorem d_Mo_compares_103 : decode c_Mo_compares 103 = .ok (.getfield 102, 3) := by decide +kernel
theorem d_Mo_compares_106 : decode c_Mo_compares 106 = .ok (.iload 7, 2) := by decide +kernel
theorem d_Mo_compares_108 : decode c_Mo_compares 108 = .ok (.bipush 25, 2) := by decide +kernel
theorem d_Mo_compares_110 : decode c_Mo_compares 110 = .ok (.isub, 1) := by decide +kernel
theorem d_Mo_compares_111 : decode c_Mo_compares 111 = .ok (.iaload, 1) := by decide +kernel
theorem d_Mo_compares_112 : decode c_Mo_compares 112 = .ok (.aload_n 0, 1) := by decide +kernel
theorem d_Mo_compares_113 : decode c_Mo_compares 113 = .ok (.getfield 102, 3) := by decide +kernel
theorem d_Mo_compares_116 : decode c_Mo_compares 116 = .ok (.iload 7, 2) := by decide +kernel
theorem d_Mo_compares_118 : decode c_Mo_compares 118 = .ok (.iconst 1, 1) := by decide +kernel
theorem d_Mo_compares_119 : decode c_Mo_compares 119 = .ok (.isub, 1) := by decide +kernel
theorem d_Mo_compares_120 : decode c_Mo_compares 120 = .ok (.iaload, 1) := by decide +kernel
theorem d_Mo_compares_121 : decode c_Mo_compares 121 = .ok (.invokestatic 286, 3) := by decide +kernel
theorem d_Mo_compares_124 : decode c_Mo_compares 124 = .ok (.iconst 1, 1) := by decide +kernel
theorem d_Mo_compares_125 : decode c_Mo_compares 125 = .ok (.iadd, 1) := by decide +kernel
theorem d_Mo_compares_126 : decode c_Mo_compares 126 = .ok (.istore 8, 2) := by decide +kernel
theorem d_Mo_compares_128 : decode c_Mo_compares 128 = .ok (.aload_n 0, 1) := by decide +kernel
theorem d_Mo_compares_129 : decode c_Mo_compares 129 = .ok (.getfield 96, 3) := by decide +kernel
theorem d_Mo_compares_132 : decode c_Mo_compares 132 = .ok (.iconst 0, 1) := by decide +kernel
theorem d_Mo_compares_133 : decode c_Mo_compares 133 = .ok (.iload 5, 2) := by decide +kernel
theorem d_Mo_compares_135 : decode c_Mo_compares 135 = .ok (.invokestatic 114, 3) := by decide +kernel
theorem d_Mo_compares_138 : decode c_Mo_compares 138 = .ok (.iaload, 1) := by decide +kernel
theorem d_Mo_compares_139 : decode c_Mo_compares 139 = .ok (.iload_n 3, 1) := by decide +kernel
theorem d_Mo_compares_140 : decode c_Mo_compares 140 = .ok (.if_icmp .ne 23, 3) := by decide +kernel
theorem d_Mo_compares_143 : decode c_Mo_compares 143 = .ok (.aload_n 0, 1) := by decide +kernel
theorem d_Mo_compares_144 : decode c_Mo_compares 144 = .ok (.getfield 96, 3) := by decide +kernel
theorem d_Mo_compares_147 : decode c_Mo_compares 147 = .ok (.iconst 1, 1) := by decide +kernel
theorem d_Mo_compares_148 : decode c_Mo_compares 148 = .ok (.iload 6, 2) := by decide +kernel
theorem d_Mo_compares_150 : decode c_Mo_compares 150 = .ok (.invokestatic 114, 3) := by decide +kernel
theorem d_Mo_compares_153 : decode c_Mo_compares 153 = .ok (.iaload, 1) := by decide +kernel
theorem d_Mo_compares_154 : decode c_Mo_compares 154 = .ok (.iload 4, 2) := by decide +kernel
theorem d_Mo_compares_156 : decode c_Mo_compares 156 = .ok (.if_icmp .ne 7, 3) := by decide +kernel
theorem d_Mo_compares_159 : decode c_Mo_compares 159 = .ok (.iconst 1, 1) := by decide +kernel
theorem d_Mo_compares_160 : decode c_Mo_compares 160 = .ok (.goto 4, 3) := by decide +kernel
theorem d_Mo_compares_163 : decode c_Mo_compares 163 = .ok (.iconst 0, 1) := by decide +kernel
theorem d_Mo_compares_164 : decode c_Mo_compares 164 = .ok (.istore 9, 2) := by decide +kernel
theorem d_Mo_compares_166 : decode c_Mo_compares 166 = .ok (.iload 9, 2) := by decide +kernel
theorem d_Mo_compares_168 : decode c_Mo_compares 168 = .ok (.ifCond .eq 47, 3) := by decide +kernel
theorem d_Mo_compares_171 : decode c_Mo_compares 171 = .ok (.iload 8, 2) := by decide +kernel
theorem d_Mo_compares_173 : decode c_Mo_compares 173 = .ok (.aload_n 0, 1) := by decide +kernel
theorem d_Mo_compares_174 : decode c_Mo_compares 174 = .ok (.getfield 102, 3) := by decide +kernel
theorem d_Mo_compares_177 : decode c_Mo_compares 177 = .ok (.iload 7, 2) := by decide +kernel
theorem d_Mo_compares_179 : decode c_Mo_compares 179 = .ok (.bipush 26, 2) := by decide +kernel
theorem d_Mo_compares_181 : decode c_Mo_compares 181 = .ok (.isub, 1) := by decide +kernel
theorem d_Mo_compares_182 : decode c_Mo_compares 182 = .ok (.iaload, 1) := by decide +kernel
theorem d_Mo_compares_183 : decode c_Mo_compares 183 = .ok (.aload_n 0, 1) := by decide +kernel
theorem d_Mo_compares_184 : decode c_Mo_compares 184 = .ok (.iload 5, 2) := by decide +kernel
theorem d_Mo_compares_186 : decode c_Mo_compares 186 = .ok (.iload 6, 2) := by decide +kernel
theorem d_Mo_compares_188 : decode c_Mo_compares 188 = .ok (.invokevirtual 288, 3) := by decide +kernel
theorem d_Mo_compares_191 : decode c_Mo_compares 191 = .ok (.iadd, 1) := by decide +kernel
theorem d_Mo_compares_192 : decode c_Mo_compares 192 = .ok (.invokestatic 286, 3) := by decide +kernel
theorem d_Mo_compares_195 : decode c_Mo_compares 195 = .ok (.istore 8, 2) := by decide +kernel
theorem d_Mo_compares_197 : decode c_Mo_compares 197 = .ok (.aload_n 0, 1) := by decide +kernel
theorem d_Mo_compares_198 : decode c_Mo_compares 198 = .ok (.getfield 99, 3) := by decide +kernel
theorem d_Mo_compares_201 : decode c_Mo_compares 201 = .ok (.bipush 24, 2) := by decide +kernel
theorem d_Mo_compares_203 : decode c_Mo_compares 203 = .ok (.iload 5, 2) := by decide +kernel
theorem d_Mo_compares_205 : decode c_Mo_compares 205 = .ok (.imul, 1) := by decide +kernel
theorem d_Mo_compares_206 : decode c_Mo_compares 206 = .ok (.iload 6, 2) := by decide +kernel
theorem d_Mo_compares_208 : decode c_Mo_compares 208 = .ok (.iadd, 1) := by decide +kernel
theorem d_Mo_compares_209 : decode c_Mo_compares 209 = .ok (.iload 8, 2) := by decide +kernel
theorem d_Mo_compares_211 : decode c_Mo_compares 211 = .ok (.iastore, 1) := by decide +kernel
theorem d_Mo_compares_212 : decode c_Mo_compares 212 = .ok (.goto 64, 3) := by decide +kernel
theorem d_Mo_compares_215 : decode c_Mo_compares 215 = .ok (.aload_n 0, 1) := by decide +kernel
theorem d_Mo_compares_216 : decode c_Mo_compares 216 = .ok (.getfield 102, 3) := by decide +kernel
theorem d_Mo_compares_219 : decode c_Mo_compares 219 = .ok (.bipush 25, 2) := by decide +kernel
theorem d_Mo_compares_221 : decode c_Mo_compares 221 = .ok (.aload_n 0, 1) := by decide +kernel
theorem d_Mo_compares_222 : decode c_Mo_compares 222 = .ok (.getfield 96, 3) := by decide +kernel
theorem d_Mo_compares_225 : decode c_Mo_compares 225 = .ok (.iconst 0, 1) := by decide +kernel
theorem d_Mo_compares_226 : decode c_Mo_compares 226 = .ok (.iload 5, 2) := by decide +kernel
theorem d_Mo_compares_228 : decode c_Mo_compares 228 = .ok (.invokestatic 114, 3) := by decide +kernel
theorem d_Mo_compares_231 : decode c_Mo_compares 231 = .ok (.iaload, 1) := by decide +kernel
theorem d_Mo_compares_232 : decode c_Mo_compares 232 = .ok (.iload_n 3, 1) := by decide +kernel
theorem d_Mo_compares_233 : decode c_Mo_compares 233 = .ok (.isub, 1) := by decide +kernel
theorem d_Mo_compares_234 : decode c_Mo_compares 234 = .ok (.imul, 1) := by decide +kernel
theorem d_Mo_compares_235 : decode c_Mo_compares 235 = .ok (.aload_n 0, 1) := by decide +kernel
theorem d_Mo_compares_236 : decode c_Mo_compares 236 = .ok (.getfield 96, 3) := by decide +kernel
theorem d_Mo_compares_239 : decode c_Mo_compares 239 = .ok (.iconst 1, 1) := by decide +kernel
theorem d_Mo_compares_240 : decode c_Mo_compares 240 = .ok (.iload 6, 2) := by decide +kernel
theorem d_Mo_compares_242 : decode c_Mo_compares 242 = .ok (.invokestatic 114, 3) := by decide +kernel
theorem d_Mo_compares_245 : decode c_Mo_compares 245 = .ok (.iaload, 1) := by decide +kernel
theorem d_Mo_compares_246 : decode c_Mo_compares 246 = .ok (.iadd, 1) := by decide +kernel
theorem d_Mo_compares_247 : decode c_Mo_compares 247 = .ok (.iload 4, 2) := by decide +kernel
theorem d_Mo_compares_249 : decode c_Mo_compares 249 = .ok (.isub, 1) := by decide +kernel
theorem d_Mo_compares_250 : decode c_Mo_compares 250 = .ok (.iaload, 1) := by decide +kernel
theorem d_Mo_compares_251 : decode c_Mo_compares 251 = .ok (.istore 10, 2) := by decide +kernel
theorem d_Mo_compares_253 : decode c_Mo_compares 253 = .ok (.iload 8, 2) := by decide +kernel
theorem d_Mo_compares_255 : decode c_Mo_compares 255 = .ok (.iload 10, 2) := by decide +kernel
theorem d_Mo_compares_257 : decode c_Mo_compares 257 = .ok (.aload_n 0, 1) := by decide +kernel
theorem d_Mo_compares_258 : decode c_Mo_compares 258 = .ok (.getfield 99, 3) := by decide +kernel
theorem d_Mo_compares_261 : decode c_Mo_compares 261 = .ok (.bipush 24, 2) := by decide +kernel
theorem d_Mo_compares_263 : decode c_Mo_compares 263 = .ok (.iload 5, 2) := by decide +kernel
theorem d_Mo_compares_265 : decode c_Mo_compares 265 = .ok (.imul, 1) := by decide +kernel
theorem d_Mo_compares_266 : decode c_Mo_compares 266 = .ok (.iload 6, 2) := by decide +kernel
theorem d_Mo_compares_268 : decode c_Mo_compares 268 = .ok (.iadd, 1) := by decide +kernel
theorem d_Mo_compares_269 : decode c_Mo_compares 269 = .ok (.iaload, 1) := by decide +kernel
theorem d_Mo_compares_270 : decode c_Mo_compares 270 = .ok (.iadd, 1) := by decide +kernel
theorem d_Mo_compares_271 : decode c_Mo_compares 271 = .ok (.invokestatic 286, 3) := by decide +kernel
theorem d_Mo_compares_274 : decode c_Mo_compares 274 = .ok (.istore 8, 2) := by decide +kernel
theorem d_Mo_compares_276 : decode c_Mo_compares 276 = .ok (.aload_n 0, 1) := by decide +kernel
theorem d_Mo_compares_277 : decode c_Mo_compares 277 = .ok (.getfield 102, 3) := by decide +kernel
theorem d_Mo_compares_280 : decode c_Mo_compares 280 = .ok (.iload 7, 2) := by decide +kernel
theorem d_Mo_compares_282 : decode c_Mo_compares 282 = .ok (.iload 8, 2) := by decide +kernel
theorem d_Mo_compares_284 : decode c_Mo_compares 284 = .ok (.iastore, 1) := by decide +kernel
theorem d_Mo_compares_285 : decode c_Mo_compares 285 = .ok (.iinc 6 1, 3) := by decide +kernel
theorem d_Mo_compares_288 : decode c_Mo_compares 288 = .ok (.goto (-248), 3) := by decide +kernel
theorem d_Mo_compares_291 : decode c_Mo_compares 291 = .ok (.iinc 5 1, 3) := by decide +kernel
theorem d_Mo_compares_294 : decode c_Mo_compares 294 = .ok (.goto (-266), 3) := by decide +kernel
theorem d_Mo_compares_297 : decode c_Mo_compares 297 = .ok (.return_, 1) := by decide +kernel
theorem d_Mo_distance_0 : decode c_Mo_distance 0 = .ok (.aload_n 0, 1) := by decide +kernel
theorem d_Mo_distance_1 : decode c_Mo_distance 1 = .ok (.iconst 0, 1) := by decide +kernel
theorem d_Mo_distance_2 : decode c_Mo_distance 2 = .ok (.invokevirtual 291, 3) := by decide +kernel
theorem d_Mo_distance_5 : decode c_Mo_distance 5 = .ok (.aload_n 0, 1) := by decide +kernel
theorem d_Mo_distance_6 : decode c_Mo_distance 6 = .ok (.iconst 1, 1) := by decide +kernel
theorem d_Mo_distance_7 : decode c_Mo_distance 7 = .ok (.invokevirtual 291, 3) := by decide +kernel
theorem d_Mo_distance_10 : decode c_Mo_distance 10 = .ok (.iconst 0, 1) := by decide +kernel
theorem d_Mo_distance_11 : decode c_Mo_distance 11 = .ok (.istore_n 1, 1) := by decide +kernel
theorem d_Mo_distance_12 : decode c_Mo_distance 12 = .ok (.iload_n 1, 1) := by decide +kernel
theorem d_Mo_distance_13 : decode c_Mo_distance 13 = .ok (.aload_n 0, 1) := by decide +kernel
theorem d_Mo_distance_14 : decode c_Mo_distance 14 = .ok (.getfield 7, 3) := by decide +kernel
theorem d_Mo_distance_17 : decode c_Mo_distance 17 = .ok (.iconst 0, 1) := by decide +kernel
theorem d_Mo_distance_18 : decode c_Mo_distance 18 = .ok (.iaload, 1) := by decide +kernel
theorem d_Mo_distance_19 : decode c_Mo_distance 19 = .ok (.if_icmp .ge 51, 3) := by decide +kernel
theorem d_Mo_distance_22 : decode c_Mo_distance 22 = .ok (.iconst 0, 1) := by decide +kernel
theorem d_Mo_distance_23 : decode c_Mo_distance 23 = .ok (.istore_n 2, 1) := by decide +kernel
theorem d_Mo_distance_24 : decode c_Mo_distance 24 = .ok (.iload_n 2, 1) := by decide +kernel
theorem d_Mo_distance_25 : decode c_Mo_distance 25 = .ok (.aload_n 0, 1) := by decide +kernel
theorem d_Mo_distance_26 : decode c_Mo_distance 26 = .ok (.getfield 7, 3) := by decide +kernel
theorem d_Mo_distance_29 : decode c_Mo_distance 29 = .ok (.iconst 1, 1) := by decide +kernel
theorem d_Mo_distance_30 : decode c_Mo_distance 30 = .ok (.iaload, 1) := by decide +kernel
theorem d_Mo_distance_31 : decode c_Mo_distance 31 = .ok (.if_icmp .ge 33, 3) := by decide +kernel
theorem d_Mo_distance_34 : decode c_Mo_distance 34 = .ok (.aload_n 0, 1) := by decide +kernel
theorem d_Mo_distance_35 : decode c_Mo_distance 35 = .ok (.iconst 0, 1) := by decide +kernel
theorem d_Mo_distance_36 : decode c_Mo_distance 36 = .ok (.iload_n 1, 1) := by decide +kernel
theorem d_Mo_distance_37 : decode c_Mo_distance 37 = .ok (.invokevirtual 294, 3) := by decide +kernel
theorem d_Mo_distance_40 : decode c_Mo_distance 40 = .ok (.ifCond .eq 18, 3) := by decide +kernel
theorem d_Mo_distance_43 : decode c_Mo_distance 43 = .ok (.aload_n 0, 1) := by decide +kernel
theorem d_Mo_distance_44 : decode c_Mo_distance 44 = .ok (.iconst 1, 1) := by decide +kernel
theorem d_Mo_distance_45 : decode c_Mo_distance 45 = .ok (.iload_n 2, 1) := by decide +kernel
theorem d_Mo_distance_46 : decode c_Mo_distance 46 = .ok (.invokevirtual 294, 3) := by decide +kernel
theorem d_Mo_distance_49 : decode c_Mo_distance 49 = .ok (.ifCond .eq 9, 3) := by decide +kernel
theorem d_Mo_distance_52 : decode c_Mo_distance 52 = .ok (.aload_n 0, 1) := by decide +kernel
theorem d_Mo_distance_53 : decode c_Mo_distance 53 = .ok (.iload_n 1, 1) := by decide +kernel
theorem d_Mo_distance_54 : decode c_Mo_distance 54 = .ok (.iload_n 2, 1) := by decide +kernel
theorem d_Mo_distance_55 : decode c_Mo_distance 55 = .ok (.invokevirtual 297, 3) := by decide +kernel
theorem d_Mo_distance_58 : decode c_Mo_distance 58 = .ok (.iinc 2 1, 3) := by decide +kernel
theorem d_Mo_distance_61 : decode c_Mo_distance 61 = .ok (.goto (-37), 3) := by decide +kernel
theorem d_Mo_distance_64 : decode c_Mo_distance 64 = .ok (.iinc 1 1, 3) := by decide +kernel
theorem d_Mo_distance_67 : decode c_Mo_distance 67 = .ok (.goto (-55), 3) := by decide +kernel
theorem d_Mo_distance_70 : decode c_Mo_distance 70 = .ok (.aload_n 0, 1) := by decide +kernel
theorem d_Mo_distance_71 : decode c_Mo_distance 71 = .ok (.getfield 99, 3) := by decide +kernel
theorem d_Mo_distance_74 : decode c_Mo_distance 74 = .ok (.bipush 24, 2) := by decide +kernel
theorem d_Mo_distance_76 : decode c_Mo_distance 76 = .ok (.aload_n 0, 1) := by decide +kernel
theorem d_Mo_distance_77 : decode c_Mo_distance 77 = .ok (.getfield 7, 3) := by decide +kernel
theorem d_Mo_distance_80 : decode c_Mo_distance 80 = .ok (.iconst 0, 1) := by decide +kernel
theorem d_Mo_distance_81 : decode c_Mo_distance 81 = .ok (.iaload, 1) := by decide +kernel
theorem d_Mo_distance_82 : decode c_Mo_distance 82 = .ok (.iconst 1, 1) := by decide +kernel
theorem d_Mo_distance_83 : decode c_Mo_distance 83 = .ok (.isub, 1) := by decide +kernel
theorem d_Mo_distance_84 : decode c_Mo_distance 84 = .ok (.imul, 1) := by decide +kernel
theorem d_Mo_distance_85 : decode c_Mo_distance 85 = .ok (.aload_n 0, 1) := by decide +kernel
theorem d_Mo_distance_86 : decode c_Mo_distance 86 = .ok (.getfield 7, 3) := by decide +kernel
theorem d_Mo_distance_89 : decode c_Mo_distance 89 = .ok (.iconst 1, 1) := by decide +kernel
theorem d_Mo_distance_90 : decode c_Mo_distance 90 = .ok (.iaload, 1) := by decide +kernel
theorem d_Mo_distance_91 : decode c_Mo_distance 91 = .ok (.iadd, 1) := by decide +kernel
theorem d_Mo_distance_92 : decode c_Mo_distance 92 = .ok (.iconst 1, 1) := by decide +kernel
theorem d_Mo_distance_93 : decode c_Mo_distance 93 = .ok (.isub, 1) := by decide +kernel
theorem d_Mo_distance_94 : decode c_Mo_distance 94 = .ok (.iaload, 1) := by decide +kernel
theorem d_Mo_distance_95 : decode c_Mo_distance 95 = .ok (.ireturn, 1) := by decide +kernel
theorem d_Mo_start_0 : decode c_Mo_start 0 = .ok (.aload_n 0, 1) := by decide +kernel
theorem d_Mo_start_1 : decode c_Mo_start 1 = .ok (.invokevirtual 216, 3) := by decide +kernel
theorem d_Mo_start_4 : decode c_Mo_start 4 = .ok (.aload_n 0, 1) := by decide +kernel
theorem d_Mo_start_5 : decode c_Mo_start 5 = .ok (.getfield 274, 3) := by decide +kernel
theorem d_Mo_start_8 : decode c_Mo_start 8 = .ok (.istore_n 1, 1) := by decide +kernel
theorem d_Mo_start_9 : decode c_Mo_start 9 = .ok (.aload_n 0, 1) := by decide +kernel
theorem d_Mo_start_10 : decode c_Mo_start 10 = .ok (.iconst 0, 1) := by decide +kernel
theorem d_Mo_start_11 : decode c_Mo_start 11 = .ok (.invokevirtual 277, 3) := by decide +kernel
theorem d_Mo_start_14 : decode c_Mo_start 14 = .ok (.iload_n 1, 1) := by decide +kernel
theorem d_Mo_start_15 : decode c_Mo_start 15 = .ok (.ireturn, 1) := by decide +kernel
theorem d_Mo_stepOn_0 : decode c_Mo_stepOn 0 = .ok (.aload_n 0, 1) := by decide +kernel
theorem d_Mo_stepOn_1 : decode c_Mo_stepOn 1 = .ok (.invokevirtual 216, 3) := by decide +kernel
theorem d_Mo_stepOn_4 : decode c_Mo_stepOn 4 = .ok (.aload_n 0, 1) := by decide +kernel
theorem d_Mo_stepOn_5 : decode c_Mo_stepOn 5 = .ok (.getfield 274, 3) := by decide +kernel
theorem d_Mo_stepOn_8 : decode c_Mo_stepOn 8 = .ok (.aload_n 0, 1) := by decide +kernel
theorem d_Mo_stepOn_9 : decode c_Mo_stepOn 9 = .ok (.getfield 225, 3) := by decide +kernel
theorem d_Mo_stepOn_12 : decode c_Mo_stepOn 12 = .ok (.if_icmp .ne 6, 3) := by decide +kernel
theorem d_Mo_stepOn_15 : decode c_Mo_stepOn 15 = .ok (.bipush (-13), 2) := by decide +kernel
theorem d_Mo_stepOn_17 : decode c_Mo_stepOn 17 = .ok (.ireturn, 1) := by decide +kernel
theorem d_Mo_stepOn_18 : decode c_Mo_stepOn 18 = .ok (.aload_n 0, 1) := by decide +kernel
theorem d_Mo_stepOn_19 : decode c_Mo_stepOn 19 = .ok (.aload_n 0, 1) := by decide +kernel
theorem d_Mo_stepOn_20 : decode c_Mo_stepOn 20 = .ok (.getfield 274, 3) := by decide +kernel
theorem d_Mo_stepOn_23 : decode c_Mo_stepOn 23 = .ok (.iconst 1, 1) := by decide +kernel
theorem d_Mo_stepOn_24 : decode c_Mo_stepOn 24 = .ok (.iadd, 1) := by decide +kernel
theorem d_Mo_stepOn_25 : decode c_Mo_stepOn 25 = .ok (.invokevirtual 277, 3) := by decide +kernel
theorem d_Mo_stepOn_28 : decode c_Mo_stepOn 28 = .ok (.aload_n 0, 1) := by decide +kernel
theorem d_Mo_stepOn_29 : decode c_Mo_stepOn 29 = .ok (.getfield 274, 3) := by decide +kernel
theorem d_Mo_stepOn_32 : decode c_Mo_stepOn 32 = .ok (.ireturn, 1) := by decide +kernel
theorem d_Mo_stepBack_0 : decode c_Mo_stepBack 0 = .ok (.aload_n 0, 1) := by decide +kernel
theorem d_Mo_stepBack_1 : decode c_Mo_stepBack 1 = .ok (.invokevirtual 216, 3) := by decide +kernel
theorem d_Mo_stepBack_4 : decode c_Mo_stepBack 4 = .ok (.aload_n 0, 1) := by decide +kernel
theorem d_Mo_stepBack_5 : decode c_Mo_stepBack 5 = .ok (.getfield 274, 3) := by decide +kernel
theorem d_Mo_stepBack_8 : decode c_Mo_stepBack 8 = .ok (.ifCond .ne 6, 3) := by decide +kernel
theorem d_Mo_stepBack_11 : decode c_Mo_stepBack 11 = .ok (.bipush (-13), 2) := by decide +kernel
theorem d_Mo_stepBack_13 : decode c_Mo_stepBack 13 = .ok (.ireturn, 1) := by decide +kernel
theorem d_Mo_stepBack_14 : decode c_Mo_stepBack 14 = .ok (.aload_n 0, 1) := by decide +kernel
theorem d_Mo_stepBack_15 : decode c_Mo_stepBack 15 = .ok (.aload_n 0, 1) := by decide +kernel
theorem d_Mo_stepBack_16 : decode c_Mo_stepBack 16 = .ok (.getfield 274, 3) := by decide +kernel
theorem d_Mo_stepBack_19 : decode c_Mo_stepBack 19 = .ok (.iconst 1, 1) := by decide +kernel
theorem d_Mo_stepBack_20 : decode c_Mo_stepBack 20 = .ok (.isub, 1) := by decide +kernel
theorem d_Mo_stepBack_21 : decode c_Mo_stepBack 21 = .ok (.invokevirtual 277, 3) := by decide +kernel
theorem d_Mo_stepBack_24 : decode c_Mo_stepBack 24 = .ok (.aload_n 0, 1) := by decide +kernel
theorem d_Mo_stepBack_25 : decode c_Mo_stepBack 25 = .ok (.getfield 274, 3) := by decide +kernel
theorem d_Mo_stepBack_28 : decode c_Mo_stepBack 28 = .ok (.ireturn, 1) := by decide +kernel
theorem d_Mo_isThere_0 : decode c_Mo_isThere 0 = .ok (.iload_n 1, 1) := by decide +kernel
theorem d_Mo_isThere_1 : decode c_Mo_isThere 1 = .ok (.bipush 48, 2) := by decide +kernel
theorem d_Mo_isThere_3 : decode c_Mo_isThere 3 = .ok (.if_icmp .eq 18, 3) := by decide +kernel
theorem d_Mo_isThere_6 : decode c_Mo_isThere 6 = .ok (.iload_n 1, 1) := by decide +kernel
theorem d_Mo_isThere_7 : decode c_Mo_isThere 7 = .ok (.ifCond .lt 18, 3) := by decide +kernel
theorem d_Mo_isThere_10 : decode c_Mo_isThere 10 = .ok (.aload_n 0, 1) := by decide +kernel
theorem d_Mo_isThere_11 : decode c_Mo_isThere 11 = .ok (.getfield 63, 3) := by decide +kernel
theorem d_Mo_isThere_14 : decode c_Mo_isThere 14 = .ok (.iload_n 1, 1) := by decide +kernel
theorem d_Mo_isThere_15 : decode c_Mo_isThere 15 = .ok (.iaload, 1) := by decide +kernel
theorem d_Mo_isThere_16 : decode c_Mo_isThere 16 = .ok (.bipush (-2), 2) := by decide +kernel
theorem d_Mo_isThere_18 : decode c_Mo_isThere 18 = .ok (.if_icmp .eq 7, 3) := by decide +kernel
theorem d_Mo_isThere_21 : decode c_Mo_isThere 21 = .ok (.iconst 1, 1) := by decide +kernel
theorem d_Mo_isThere_22 : decode c_Mo_isThere 22 = .ok (.goto 4, 3) := by decide +kernel
theorem d_Mo_isThere_25 : decode c_Mo_isThere 25 = .ok (.iconst 0, 1) := by decide +kernel
theorem d_Mo_isThere_26 : decode c_Mo_isThere 26 = .ok (.ireturn, 1) := by decide +kernel
theorem d_Mo_workingChild_0 : decode c_Mo_workingChild 0 = .ok (.aload_n 0, 1) := by decide +kernel
theorem d_Mo_workingChild_1 : decode c_Mo_workingChild 1 = .ok (.invokevirtual 216, 3) := by decide +kernel
theorem d_Mo_workingChild_4 : decode c_Mo_workingChild 4 = .ok (.iload_n 1, 1) := by decide +kernel
theorem d_Mo_workingChild_5 : decode c_Mo_workingChild 5 = .ok (.invokestatic 283, 3) := by decide +kernel
theorem d_Mo_workingChild_8 : decode c_Mo_workingChild 8 = .ok (.istore_n 3, 1) := by decide +kernel
theorem d_Mo_workingChild_9 : decode c_Mo_workingChild 9 = .ok (.aload_n 0, 1) := by decide +kernel
theorem d_Mo_workingChild_10 : decode c_Mo_workingChild 10 = .ok (.iload_n 3, 1) := by decide +kernel
theorem d_Mo_workingChild_11 : decode c_Mo_workingChild 11 = .ok (.invokevirtual 300, 3) := by decide +kernel
theorem d_Mo_workingChild_14 : decode c_Mo_workingChild 14 = .ok (.ifCond .ne 6, 3) := by decide +kernel
theorem d_Mo_workingChild_17 : decode c_Mo_workingChild 17 = .ok (.bipush (-11), 2) := by decide +kernel
theorem d_Mo_workingChild_19 : decode c_Mo_workingChild 19 = .ok (.ireturn, 1) := by decide +kernel
theorem d_Mo_workingChild_20 : decode c_Mo_workingChild 20 = .ok (.iload_n 2, 1) := by decide +kernel
theorem d_Mo_workingChild_21 : decode c_Mo_workingChild 21 = .ok (.iconst 0, 1) := by decide +kernel
theorem d_Mo_workingChild_22 : decode c_Mo_workingChild 22 = .ok (.aload_n 0, 1) := by decide +kernel
theorem d_Mo_workingChild_23 : decode c_Mo_workingChild 23 = .ok (.getfield 75, 3) := by decide +kernel
theorem d_Mo_workingChild_26 : decode c_Mo_workingChild 26 = .ok (.iload_n 3, 1) := by decide +kernel
theorem d_Mo_workingChild_27 : decode c_Mo_workingChild 27 = .ok (.iaload, 1) := by decide +kernel
theorem d_Mo_workingChild_28 : decode c_Mo_workingChild 28 = .ok (.iconst 1, 1) := by decide +kernel
theorem d_Mo_workingChild_29 : decode c_Mo_workingChild 29 = .ok (.isub, 1) := by decide +kernel
theorem d_Mo_workingChild_30 : decode c_Mo_workingChild 30 = .ok (.invokestatic 121, 3) := by decide +kernel
theorem d_Mo_workingChild_33 : decode c_Mo_workingChild 33 = .ok (.ifCond .eq 20, 3) := by decide +kernel
theorem d_Mo_workingChild_36 : decode c_Mo_workingChild 36 = .ok (.aload_n 0, 1) := by decide +kernel
theorem d_Mo_workingChild_37 : decode c_Mo_workingChild 37 = .ok (.getfield 72, 3) := by decide +kernel
theorem d_Mo_workingChild_40 : decode c_Mo_workingChild 40 = .ok (.bipush 49, 2) := by decide +kernel
theorem d_Mo_workingChild_42 : decode c_Mo_workingChild 42 = .ok (.iload_n 3, 1) := by decide +kernel
theorem d_Mo_workingChild_43 : decode c_Mo_workingChild 43 = .ok (.imul, 1) := by decide +kernel
theorem d_Mo_workingChild_44 : decode c_Mo_workingChild 44 = .ok (.iload_n 2, 1) := by decide +kernel
theorem d_Mo_workingChild_45 : decode c_Mo_workingChild 45 = .ok (.iadd, 1) := by decide +kernel
theorem d_Mo_workingChild_46 : decode c_Mo_workingChild 46 = .ok (.iaload, 1) := by decide +kernel
theorem d_Mo_workingChild_47 : decode c_Mo_workingChild 47 = .ok (.invokestatic 228, 3) := by decide +kernel
theorem d_Mo_workingChild_50 : decode c_Mo_workingChild 50 = .ok (.goto 5, 3) := by decide +kernel
theorem d_Mo_workingChild_53 : decode c_Mo_workingChild 53 = .ok (.bipush (-15), 2) := by decide +kernel
theorem d_Mo_workingChild_55 : decode c_Mo_workingChild 55 = .ok (.ireturn, 1) := by decide +kernel
theorem d_Mo_workingNode_0 : decode c_Mo_workingNode 0 = .ok (.aload_n 0, 1) := by decide +kernel
theorem d_Mo_workingNode_1 : decode c_Mo_workingNode 1 = .ok (.invokevirtual 216, 3) := by decide +kernel
theorem d_Mo_workingNode_4 : decode c_Mo_workingNode 4 = .ok (.iload_n 1, 1) := by decide +kernel
theorem d_Mo_workingNode_5 : decode c_Mo_workingNode 5 = .ok (.invokestatic 283, 3) := by decide +kernel
theorem d_Mo_workingNode_8 : decode c_Mo_workingNode 8 = .ok (.istore_n 3, 1) := by decide +kernel
theorem d_Mo_workingNode_9 : decode c_Mo_workingNode 9 = .ok (.iload_n 3, 1) := by decide +kernel
theorem d_Mo_workingNode_10 : decode c_Mo_workingNode 10 = .ok (.bipush 48, 2) := by decide +kernel
theorem d_Mo_workingNode_12 : decode c_Mo_workingNode 12 = .ok (.if_icmp .eq 11, 3) := by decide +kernel
theorem d_Mo_workingNode_15 : decode c_Mo_workingNode 15 = .ok (.aload_n 0, 1) := by decide +kernel
theorem d_Mo_workingNode_16 : decode c_Mo_workingNode 16 = .ok (.iload_n 3, 1) := by decide +kernel
theorem d_Mo_workingNode_17 : decode c_Mo_workingNode 17 = .ok (.invokevirtual 300, 3) := by decide +kernel
theorem d_Mo_workingNode_20 : decode c_Mo_workingNode 20 = .ok (.ifCond .ne 6, 3) := by decide +kernel
theorem d_Mo_workingNode_23 : decode c_Mo_workingNode 23 = .ok (.bipush (-11), 2) := by decide +kernel
theorem d_Mo_workingNode_25 : decode c_Mo_workingNode 25 = .ok (.ireturn, 1) := by decide +kernel
theorem d_Mo_workingNode_26 : decode c_Mo_workingNode 26 = .ok (.iload_n 2, 1) := by decide +kernel
theorem d_Mo_workingNode_27 : decode c_Mo_workingNode 27 = .ok (.ifCond .ne 12, 3) := by decide +kernel
theorem d_Mo_workingNode_30 : decode c_Mo_workingNode 30 = .ok (.aload_n 0, 1) := by decide +kernel
theorem d_Mo_workingNode_31 : decode c_Mo_workingNode 31 = .ok (.getfield 66, 3) := by decide +kernel
theorem d_Mo_workingNode_34 : decode c_Mo_workingNode 34 = .ok (.iload_n 3, 1) := by decide +kernel
theorem d_Mo_workingNode_35 : decode c_Mo_workingNode 35 = .ok (.iaload, 1) := by decide +kernel
theorem d_Mo_workingNode_36 : decode c_Mo_workingNode 36 = .ok (.goto 36, 3) := by decide +kernel
theorem d_Mo_workingNode_39 : decode c_Mo_workingNode 39 = .ok (.iload_n 2, 1) := by decide +kernel
theorem d_Mo_workingNode_40 : decode c_Mo_workingNode 40 = .ok (.iconst 1, 1) := by decide +kernel
theorem d_Mo_workingNode_41 : decode c_Mo_workingNode 41 = .ok (.if_icmp .ne 12, 3) := by decide +kernel
theorem d_Mo_workingNode_44 : decode c_Mo_workingNode 44 = .ok (.aload_n 0, 1) := by decide +kernel
theorem d_Mo_workingNode_45 : decode c_Mo_workingNode 45 = .ok (.getfield 69, 3) := by decide +kernel
theorem d_Mo_workingNode_48 : decode c_Mo_workingNode 48 = .ok (.iload_n 3, 1) := by decide +kernel
theorem d_Mo_workingNode_49 : decode c_Mo_workingNode 49 = .ok (.iaload, 1) := by decide +kernel
theorem d_Mo_workingNode_50 : decode c_Mo_workingNode 50 = .ok (.goto 22, 3) := by decide +kernel
theorem d_Mo_workingNode_53 : decode c_Mo_workingNode 53 = .ok (.iload_n 2, 1) := by decide +kernel
theorem d_Mo_workingNode_54 : decode c_Mo_workingNode 54 = .ok (.iconst 2, 1) := by decide +kernel
theorem d_Mo_workingNode_55 : decode c_Mo_workingNode 55 = .ok (.if_icmp .ne 15, 3) := by decide +kernel
theorem d_Mo_workingNode_58 : decode c_Mo_workingNode 58 = .ok (.aload_n 0, 1) := by decide +kernel
theorem d_Mo_workingNode_59 : decode c_Mo_workingNode 59 = .ok (.getfield 63, 3) := by decide +kernel
theorem d_Mo_workingNode_62 : decode c_Mo_workingNode 62 = .ok (.iload_n 3, 1) := by decide +kernel
theorem d_Mo_workingNode_63 : decode c_Mo_workingNode 63 = .ok (.iaload, 1) := by decide +kernel
theorem d_Mo_workingNode_64 : decode c_Mo_workingNode 64 = .ok (.invokestatic 228, 3) := by decide +kernel
theorem d_Mo_workingNode_67 : decode c_Mo_workingNode 67 = .ok (.goto 5, 3) := by decide +kernel
theorem d_Mo_workingNode_70 : decode c_Mo_workingNode 70 = .ok (.bipush (-12), 2) := by decide +kernel
theorem d_Mo_workingNode_72 : decode c_Mo_workingNode 72 = .ok (.ireturn, 1) := by decide +kernel
theorem d_Mo_sign_0 : decode c_Mo_sign 0 = .ok (.aload_n 0, 1) := by decide +kernel
theorem d_Mo_sign_1 : decode c_Mo_sign 1 = .ok (.getfield 105, 3) := by decide +kernel
theorem d_Mo_sign_4 : decode c_Mo_sign 4 = .ok (.aload_n 0, 1) := by decide +kernel
theorem d_Mo_sign_5 : decode c_Mo_sign 5 = .ok (.getfield 303, 3) := by decide +kernel
theorem d_Mo_sign_8 : decode c_Mo_sign 8 = .ok (.iload_n 1, 1) := by decide +kernel
theorem d_Mo_sign_9 : decode c_Mo_sign 9 = .ok (.iastore, 1) := by decide +kernel
theorem d_Mo_sign_10 : decode c_Mo_sign 10 = .ok (.aload_n 0, 1) := by decide +kernel
theorem d_Mo_sign_11 : decode c_Mo_sign 11 = .ok (.dup, 1) := by decide +kernel
theorem d_Mo_sign_12 : decode c_Mo_sign 12 = .ok (.getfield 303, 3) := by decide +kernel
theorem d_Mo_sign_15 : decode c_Mo_sign 15 = .ok (.iconst 1, 1) := by decide +kernel
theorem d_Mo_sign_16 : decode c_Mo_sign 16 = .ok (.iadd, 1) := by decide +kernel
theorem d_Mo_sign_17 : decode c_Mo_sign 17 = .ok (.putfield 303, 3) := by decide +kernel
theorem d_Mo_sign_20 : decode c_Mo_sign 20 = .ok (.return_, 1) := by decide +kernel
theorem d_Mo_writesNode_0 : decode c_Mo_writesNode 0 = .ok (.aload_n 0, 1) := by decide +kernel
theorem d_Mo_writesNode_1 : decode c_Mo_writesNode 1 = .ok (.bipush 97, 2) := by decide +kernel
theorem d_Mo_writesNode_3 : decode c_Mo_writesNode 3 = .ok (.aload_n 0, 1) := by decide +kernel
theorem d_Mo_writesNode_4 : decode c_Mo_writesNode 4 = .ok (.getfield 66, 3) := by decide +kernel
theorem d_Mo_writesNode_7 : decode c_Mo_writesNode 7 = .ok (.iload_n 1, 1) := by decide +kernel
theorem d_Mo_writesNode_8 : decode c_Mo_writesNode 8 = .ok (.iaload, 1) := by decide +kernel
theorem d_Mo_writesNode_9 : decode c_Mo_writesNode 9 = .ok (.iadd, 1) := by decide +kernel
theorem d_Mo_writesNode_10 : decode c_Mo_writesNode 10 = .ok (.invokevirtual 306, 3) := by decide +kernel
theorem d_Mo_writesNode_13 : decode c_Mo_writesNode 13 = .ok (.aload_n 0, 1) := by decide +kernel
theorem d_Mo_writesNode_14 : decode c_Mo_writesNode 14 = .ok (.getfield 69, 3) := by decide +kernel
theorem d_Mo_writesNode_17 : decode c_Mo_writesNode 17 = .ok (.iload_n 1, 1) := by decide +kernel
theorem d_Mo_writesNode_18 : decode c_Mo_writesNode 18 = .ok (.iaload, 1) := by decide +kernel
theorem d_Mo_writesNode_19 : decode c_Mo_writesNode 19 = .ok (.bipush 9, 2) := by decide +kernel
theorem d_Mo_writesNode_21 : decode c_Mo_writesNode 21 = .ok (.if_icmp .le 19, 3) := by decide +kernel
theorem d_Mo_writesNode_24 : decode c_Mo_writesNode 24 = .ok (.aload_n 0, 1) := by decide +kernel
theorem d_Mo_writesNode_25 : decode c_Mo_writesNode 25 = .ok (.bipush 48, 2) := by decide +kernel
theorem d_Mo_writesNode_27 : decode c_Mo_writesNode 27 = .ok (.aload_n 0, 1) := by decide +kernel
theorem d_Mo_writesNode_28 : decode c_Mo_writesNode 28 = .ok (.getfield 69, 3) := by decide +kernel
theorem d_Mo_writesNode_31 : decode c_Mo_writesNode 31 = .ok (.iload_n 1, 1) := by decide +kernel
theorem d_Mo_writesNode_32 : decode c_Mo_writesNode 32 = .ok (.iaload, 1) := by decide +kernel
theorem d_Mo_writesNode_33 : decode c_Mo_writesNode 33 = .ok (.bipush 10, 2) := by decide +kernel
theorem d_Mo_writesNode_35 : decode c_Mo_writesNode 35 = .ok (.idiv, 1) := by decide +kernel
theorem d_Mo_writesNode_36 : decode c_Mo_writesNode 36 = .ok (.iadd, 1) := by decide +kernel
theorem d_Mo_writesNode_37 : decode c_Mo_writesNode 37 = .ok (.invokevirtual 306, 3) := by decide +kernel
theorem d_Mo_writesNode_40 : decode c_Mo_writesNode 40 = .ok (.aload_n 0, 1) := by decide +kernel
theorem d_Mo_writesNode_41 : decode c_Mo_writesNode 41 = .ok (.getfield 69, 3) := by decide +kernel
theorem d_Mo_writesNode_44 : decode c_Mo_writesNode 44 = .ok (.iload_n 1, 1) := by decide +kernel
theorem d_Mo_writesNode_45 : decode c_Mo_writesNode 45 = .ok (.iaload, 1) := by decide +kernel
theorem d_Mo_writesNode_46 : decode c_Mo_writesNode 46 = .ok (.ifCond .le 19, 3) := by decide +kernel
theorem d_Mo_writesNode_49 : decode c_Mo_writesNode 49 = .ok (.aload_n 0, 1) := by decide +kernel
theorem d_Mo_writesNode_50 : decode c_Mo_writesNode 50 = .ok (.bipush 48, 2) := by decide +kernel
theorem d_Mo_writesNode_52 : decode c_Mo_writesNode 52 = .ok (.aload_n 0, 1) := by decide +kernel
theorem d_Mo_writesNode_53 : decode c_Mo_writesNode 53 = .ok (.getfield 69, 3) := by decide +kernel
theorem d_Mo_writesNode_56 : decode c_Mo_writesNode 56 = .ok (.iload_n 1, 1) := by decide +kernel
theorem d_Mo_writesNode_57 : decode c_Mo_writesNode 57 = .ok (.iaload, 1) := by decide +kernel
theorem d_Mo_writesNode_58 : decode c_Mo_writesNode 58 = .ok (.bipush 10, 2) := by decide +kernel
theorem d_Mo_writesNode_60 : decode c_Mo_writesNode 60 = .ok (.irem, 1) := by decide +kernel
theorem d_Mo_writesNode_61 : decode c_Mo_writesNode 61 = .ok (.iadd, 1) := by decide +kernel
theorem d_Mo_writesNode_62 : decode c_Mo_writesNode 62 = .ok (.invokevirtual 306, 3) := by decide +kernel
theorem d_Mo_writesNode_65 : decode c_Mo_writesNode 65 = .ok (.return_, 1) := by decide +kernel
theorem d_Mo_drafts_0 : decode c_Mo_drafts 0 = .ok (.aload_n 0, 1) := by decide +kernel
theorem d_Mo_drafts_1 : decode c_Mo_drafts 1 = .ok (.iconst 0, 1) := by decide +kernel
theorem d_Mo_drafts_2 : decode c_Mo_drafts 2 = .ok (.putfield 303, 3) := by decide +kernel
theorem d_Mo_drafts_5 : decode c_Mo_drafts 5 = .ok (.iconst 1, 1) := by decide +kernel
theorem d_Mo_drafts_6 : decode c_Mo_drafts 6 = .ok (.istore_n 1, 1) := by decide +kernel
theorem d_Mo_drafts_7 : decode c_Mo_drafts 7 = .ok (.aload_n 0, 1) := by decide +kernel
theorem d_Mo_drafts_8 : decode c_Mo_drafts 8 = .ok (.getfield 108, 3) := by decide +kernel
theorem d_Mo_drafts_11 : decode c_Mo_drafts 11 = .ok (.iconst 0, 1) := by decide +kernel
theorem d_Mo_drafts_12 : decode c_Mo_drafts 12 = .ok (.bipush 48, 2) := by decide +kernel
theorem d_Mo_drafts_14 : decode c_Mo_drafts 14 = .ok (.iastore, 1) := by decide +kernel
theorem d_Mo_drafts_15 : decode c_Mo_drafts 15 = .ok (.aload_n 0, 1) := by decide +kernel
theorem d_Mo_drafts_16 : decode c_Mo_drafts 16 = .ok (.getfield 111, 3) := by decide +kernel
theorem d_Mo_drafts_19 : decode c_Mo_drafts 19 = .ok (.iconst 0, 1) := by decide +kernel
theorem d_Mo_drafts_20 : decode c_Mo_drafts 20 = .ok (.iconst 0, 1) := by decide +kernel
theorem d_Mo_drafts_21 : decode c_Mo_drafts 21 = .ok (.iastore, 1) := by decide +kernel
theorem d_Mo_drafts_22 : decode c_Mo_drafts 22 = .ok (.iload_n 1, 1) := by decide +kernel
theorem d_Mo_drafts_23 : decode c_Mo_drafts 23 = .ok (.ifCond .le 130, 3) := by decide +kernel
theorem d_Mo_drafts_26 : decode c_Mo_drafts 26 = .ok (.aload_n 0, 1) := by decide +kernel
theorem d_Mo_drafts_27 : decode c_Mo_drafts 27 = .ok (.getfield 108, 3) := by decide +kernel
theorem d_Mo_drafts_30 : decode c_Mo_drafts 30 = .ok (.iload_n 1, 1) := by decide +kernel
theorem d_Mo_drafts_31 : decode c_Mo_drafts 31 = .ok (.iconst 1, 1) := by decide +kernel
theorem d_Mo_drafts_32 : decode c_Mo_drafts 32 = .ok (.isub, 1) := by decide +kernel
theorem d_Mo_drafts_33 : decode c_Mo_drafts 33 = .ok (.iaload, 1) := by decide +kernel
theorem d_Mo_drafts_34 : decode c_Mo_drafts 34 = .ok (.istore_n 2, 1) := by decide +kernel
theorem d_Mo_drafts_35 : decode c_Mo_drafts 35 = .ok (.aload_n 0, 1) := by decide +kernel
theorem d_Mo_drafts_36 : decode c_Mo_drafts 36 = .ok (.getfield 111, 3) := by decide +kernel
theorem d_Mo_drafts_39 : decode c_Mo_drafts 39 = .ok (.iload_n 1, 1) := by decide +kernel
theorem d_Mo_drafts_40 : decode c_Mo_drafts 40 = .ok (.iconst 1, 1) := by decide +kernel
theorem d_Mo_drafts_41 : decode c_Mo_drafts 41 = .ok (.isub, 1) := by decide +kernel
theorem d_Mo_drafts_42 : decode c_Mo_drafts 42 = .ok (.iaload, 1) := by decide +kernel
theorem d_Mo_drafts_43 : decode c_Mo_drafts 43 = .ok (.istore_n 3, 1) := by decide +kernel
theorem d_Mo_drafts_44 : decode c_Mo_drafts 44 = .ok (.iload_n 3, 1) := by decide +kernel
theorem d_Mo_drafts_45 : decode c_Mo_drafts 45 = .ok (.aload_n 0, 1) := by decide +kernel
theorem d_Mo_drafts_46 : decode c_Mo_drafts 46 = .ok (.getfield 75, 3) := by decide +kernel
theorem d_Mo_drafts_49 : decode c_Mo_drafts 49 = .ok (.iload_n 2, 1) := by decide +kernel
theorem d_Mo_drafts_50 : decode c_Mo_drafts 50 = .ok (.iaload, 1) := by decide +kernel
theorem d_Mo_drafts_51 : decode c_Mo_drafts 51 = .ok (.if_icmp .ne 25, 3) := by decide +kernel
theorem d_Mo_drafts_54 : decode c_Mo_drafts 54 = .ok (.iload_n 2, 1) := by decide +kernel
theorem d_Mo_drafts_55 : decode c_Mo_drafts 55 = .ok (.bipush 48, 2) := by decide +kernel
theorem d_Mo_drafts_57 : decode c_Mo_drafts 57 = .ok (.if_icmp .eq 13, 3) := by decide +kernel
theorem d_Mo_drafts_60 : decode c_Mo_drafts 60 = .ok (.iload_n 3, 1) := by decide +kernel
theorem d_Mo_drafts_61 : decode c_Mo_drafts 61 = .ok (.ifCond .le 9, 3) := by decide +kernel
theorem d_Mo_drafts_64 : decode c_Mo_drafts 64 = .ok (.aload_n 0, 1) := by decide +kernel
theorem d_Mo_drafts_65 : decode c_Mo_drafts 65 = .ok (.bipush 41, 2) := by decide +kernel
theorem d_Mo_drafts_67 : decode c_Mo_drafts 67 = .ok (.invokevirtual 306, 3) := by decide +kernel
theorem d_Mo_drafts_70 : decode c_Mo_drafts 70 = .ok (.iinc 1 (-1), 3) := by decide +kernel
theorem d_Mo_drafts_73 : decode c_Mo_drafts 73 = .ok (.goto 77, 3) := by decide +kernel
theorem d_Mo_drafts_76 : decode c_Mo_drafts 76 = .ok (.iload_n 3, 1) := by decide +kernel
theorem d_Mo_drafts_77 : decode c_Mo_drafts 77 = .ok (.ifCond .gt 9, 3) := by decide +kernel
theorem d_Mo_drafts_80 : decode c_Mo_drafts 80 = .ok (.iload_n 2, 1) := by decide +kernel
theorem d_Mo_drafts_81 : decode c_Mo_drafts 81 = .ok (.bipush 48, 2) := by decide +kernel
theorem d_Mo_drafts_83 : decode c_Mo_drafts 83 = .ok (.if_icmp .eq 18, 3) := by decide +kernel
theorem d_Mo_drafts_86 : decode c_Mo_drafts 86 = .ok (.aload_n 0, 1) := by decide +kernel
theorem d_Mo_drafts_87 : decode c_Mo_drafts 87 = .ok (.iload_n 3, 1) := by decide +kernel
theorem d_Mo_drafts_88 : decode c_Mo_drafts 88 = .ok (.ifCond .le 8, 3) := by decide +kernel
theorem d_Mo_drafts_91 : decode c_Mo_drafts 91 = .ok (.bipush 32, 2) := by decide +kernel
theorem d_Mo_drafts_93 : decode c_Mo_drafts 93 = .ok (.goto 5, 3) := by decide +kernel
theorem d_Mo_drafts_96 : decode c_Mo_drafts 96 = .ok (.bipush 40, 2) := by decide +kernel
theorem d_Mo_drafts_98 : decode c_Mo_drafts 98 = .ok (.invokevirtual 306, 3) := by decide +kernel
theorem d_Mo_drafts_101 : decode c_Mo_drafts 101 = .ok (.aload_n 0, 1) := by decide +kernel
theorem d_Mo_drafts_102 : decode c_Mo_drafts 102 = .ok (.getfield 111, 3) := by decide +kernel
theorem d_Mo_drafts_105 : decode c_Mo_drafts 105 = .ok (.iload_n 1, 1) := by decide +kernel
theorem d_Mo_drafts_106 : decode c_Mo_drafts 106 = .ok (.iconst 1, 1) := by decide +kernel
theorem d_Mo_drafts_107 : decode c_Mo_drafts 107 = .ok (.isub, 1) := by decide +kernel
theorem d_Mo_drafts_108 : decode c_Mo_drafts 108 = .ok (.dup2, 1) := by decide +kernel
theorem d_Mo_drafts_109 : decode c_Mo_drafts 109 = .ok (.iaload, 1) := by decide +kernel
theorem d_Mo_drafts_110 : decode c_Mo_drafts 110 = .ok (.iconst 1, 1) := by decide +kernel
theorem d_Mo_drafts_111 : decode c_Mo_drafts 111 = .ok (.iadd, 1) := by decide +kernel
theorem d_Mo_drafts_112 : decode c_Mo_drafts 112 = .ok (.iastore, 1) := by decide +kernel
theorem d_Mo_drafts_113 : decode c_Mo_drafts 113 = .ok (.aload_n 0, 1) := by decide +kernel
theorem d_Mo_drafts_114 : decode c_Mo_drafts 114 = .ok (.getfield 108, 3) := by decide +kernel
theorem d_Mo_drafts_117 : decode c_Mo_drafts 117 = .ok (.iload_n 1, 1) := by decide +kernel
theorem d_Mo_drafts_118 : decode c_Mo_drafts 118 = .ok (.aload_n 0, 1) := by decide +kernel
theorem d_Mo_drafts_119 : decode c_Mo_drafts 119 = .ok (.getfield 72, 3) := by decide +kernel
theorem d_Mo_drafts_122 : decode c_Mo_drafts 122 = .ok (.bipush 49, 2) := by decide +kernel
theorem d_Mo_drafts_124 : decode c_Mo_drafts 124 = .ok (.iload_n 2, 1) := by decide +kernel
theorem d_Mo_drafts_125 : decode c_Mo_drafts 125 = .ok (.imul, 1) := by decide +kernel
theorem d_Mo_drafts_126 : decode c_Mo_drafts 126 = .ok (.iload_n 3, 1) := by decide +kernel
theorem d_Mo_drafts_127 : decode c_Mo_drafts 127 = .ok (.iadd, 1) := by decide +kernel
theorem d_Mo_drafts_128 : decode c_Mo_drafts 128 = .ok (.iaload, 1) := by decide +kernel
theorem d_Mo_drafts_129 : decode c_Mo_drafts 129 = .ok (.iastore, 1) := by decide +kernel
theorem d_Mo_drafts_130 : decode c_Mo_drafts 130 = .ok (.aload_n 0, 1) := by decide +kernel
theorem d_Mo_drafts_131 : decode c_Mo_drafts 131 = .ok (.getfield 111, 3) := by decide +kernel
theorem d_Mo_drafts_134 : decode c_Mo_drafts 134 = .ok (.iload_n 1, 1) := by decide +kernel
theorem d_Mo_drafts_135 : decode c_Mo_drafts 135 = .ok (.iconst 0, 1) := by decide +kernel
theorem d_Mo_drafts_136 : decode c_Mo_drafts 136 = .ok (.iastore, 1) := by decide +kernel
theorem d_Mo_drafts_137 : decode c_Mo_drafts 137 = .ok (.aload_n 0, 1) := by decide +kernel
theorem d_Mo_drafts_138 : decode c_Mo_drafts 138 = .ok (.aload_n 0, 1) := by decide +kernel
theorem d_Mo_drafts_139 : decode c_Mo_drafts 139 = .ok (.getfield 108, 3) := by decide +kernel
theorem d_Mo_drafts_142 : decode c_Mo_drafts 142 = .ok (.iload_n 1, 1) := by decide +kernel
theorem d_Mo_drafts_143 : decode c_Mo_drafts 143 = .ok (.iaload, 1) := by decide +kernel
theorem d_Mo_drafts_144 : decode c_Mo_drafts 144 = .ok (.invokevirtual 309, 3) := by decide +kernel
theorem d_Mo_drafts_147 : decode c_Mo_drafts 147 = .ok (.iinc 1 1, 3) := by decide +kernel
theorem d_Mo_drafts_150 : decode c_Mo_drafts 150 = .ok (.goto (-128), 3) := by decide +kernel
theorem d_Mo_drafts_153 : decode c_Mo_drafts 153 = .ok (.return_, 1) := by decide +kernel
theorem d_Mo_print_0 : decode c_Mo_print 0 = .ok (.iload_n 1, 1) := by decide +kernel
theorem d_Mo_print_1 : decode c_Mo_print 1 = .ok (.iconst 0, 1) := by decide +kernel
theorem d_Mo_print_2 : decode c_Mo_print 2 = .ok (.iconst 2, 1) := by decide +kernel
theorem d_Mo_print_3 : decode c_Mo_print 3 = .ok (.invokestatic 121, 3) := by decide +kernel
theorem d_Mo_print_6 : decode c_Mo_print 6 = .ok (.ifCond .ne 6, 3) := by decide +kernel
theorem d_Mo_print_9 : decode c_Mo_print 9 = .ok (.bipush (-11), 2) := by decide +kernel
theorem d_Mo_print_11 : decode c_Mo_print 11 = .ok (.ireturn, 1) := by decide +kernel
theorem d_Mo_print_12 : decode c_Mo_print 12 = .ok (.aload_n 0, 1) := by decide +kernel
theorem d_Mo_print_13 : decode c_Mo_print 13 = .ok (.invokevirtual 216, 3) := by decide +kernel
theorem d_Mo_print_16 : decode c_Mo_print 16 = .ok (.iload_n 1, 1) := by decide +kernel
theorem d_Mo_print_17 : decode c_Mo_print 17 = .ok (.iconst 2, 1) := by decide +kernel
theorem d_Mo_print_18 : decode c_Mo_print 18 = .ok (.if_icmp .ge 8, 3) := by decide +kernel
theorem d_Mo_print_21 : decode c_Mo_print 21 = .ok (.aload_n 0, 1) := by decide +kernel
theorem d_Mo_print_22 : decode c_Mo_print 22 = .ok (.iload_n 1, 1) := by decide +kernel
theorem d_Mo_print_23 : decode c_Mo_print 23 = .ok (.invokevirtual 256, 3) := by decide +kernel
theorem d_Mo_print_26 : decode c_Mo_print 26 = .ok (.aload_n 0, 1) := by decide +kernel
theorem d_Mo_print_27 : decode c_Mo_print 27 = .ok (.invokevirtual 312, 3) := by decide +kernel
theorem d_Mo_print_30 : decode c_Mo_print 30 = .ok (.aload_n 0, 1) := by decide +kernel
theorem d_Mo_print_31 : decode c_Mo_print 31 = .ok (.aload_n 0, 1) := by decide +kernel
theorem d_Mo_print_32 : decode c_Mo_print 32 = .ok (.getfield 274, 3) := by decide +kernel
theorem d_Mo_print_35 : decode c_Mo_print 35 = .ok (.invokevirtual 277, 3) := by decide +kernel
theorem d_Mo_print_38 : decode c_Mo_print 38 = .ok (.iconst 0, 1) := by decide +kernel
theorem d_Mo_print_39 : decode c_Mo_print 39 = .ok (.istore_n 2, 1) := by decide +kernel
theorem d_Mo_print_40 : decode c_Mo_print 40 = .ok (.iload_n 2, 1) := by decide +kernel
theorem d_Mo_print_41 : decode c_Mo_print 41 = .ok (.aload_n 0, 1) := by decide +kernel
theorem d_Mo_print_42 : decode c_Mo_print 42 = .ok (.getfield 303, 3) := by decide +kernel
theorem d_Mo_print_45 : decode c_Mo_print 45 = .ok (.if_icmp .ge 21, 3) := by decide +kernel
theorem d_Mo_print_48 : decode c_Mo_print 48 = .ok (.aload_n 0, 1) := by decide +kernel
theorem d_Mo_print_49 : decode c_Mo_print 49 = .ok (.getfield 39, 3) := by decide +kernel
theorem d_Mo_print_52 : decode c_Mo_print 52 = .ok (.iload_n 2, 1) := by decide +kernel
theorem d_Mo_print_53 : decode c_Mo_print 53 = .ok (.aload_n 0, 1) := by decide +kernel
theorem d_Mo_print_54 : decode c_Mo_print 54 = .ok (.getfield 105, 3) := by decide +kernel
theorem d_Mo_print_57 : decode c_Mo_print 57 = .ok (.iload_n 2, 1) := by decide +kernel
theorem d_Mo_print_58 : decode c_Mo_print 58 = .ok (.iaload, 1) := by decide +kernel
theorem d_Mo_print_59 : decode c_Mo_print 59 = .ok (.iastore, 1) := by decide +kernel
theorem d_Mo_print_60 : decode c_Mo_print 60 = .ok (.iinc 2 1, 3) := by decide +kernel
theorem d_Mo_print_63 : decode c_Mo_print 63 = .ok (.goto (-23), 3) := by decide +kernel
theorem d_Mo_print_66 : decode c_Mo_print 66 = .ok (.aload_n 0, 1) := by decide +kernel
theorem d_Mo_print_67 : decode c_Mo_print 67 = .ok (.aload_n 0, 1) := by decide +kernel
theorem d_Mo_print_68 : decode c_Mo_print 68 = .ok (.getfield 303, 3) := by decide +kernel
theorem d_Mo_print_71 : decode c_Mo_print 71 = .ok (.putfield 315, 3) := by decide +kernel
theorem d_Mo_print_74 : decode c_Mo_print 74 = .ok (.aload_n 0, 1) := by decide +kernel
theorem d_Mo_print_75 : decode c_Mo_print 75 = .ok (.getfield 315, 3) := by decide +kernel
theorem d_Mo_print_78 : decode c_Mo_print 78 = .ok (.ireturn, 1) := by decide +kernel
theorem d_Mo_printed_0 : decode c_Mo_printed 0 = .ok (.iload_n 1, 1) := by decide +kernel
theorem d_Mo_printed_1 : decode c_Mo_printed 1 = .ok (.iconst 0, 1) := by decide +kernel
theorem d_Mo_printed_2 : decode c_Mo_printed 2 = .ok (.aload_n 0, 1) := by decide +kernel
theorem d_Mo_printed_3 : decode c_Mo_printed 3 = .ok (.getfield 315, 3) := by decide +kernel
theorem d_Mo_printed_6 : decode c_Mo_printed 6 = .ok (.iconst 1, 1) := by decide +kernel
theorem d_Mo_printed_7 : decode c_Mo_printed 7 = .ok (.isub, 1) := by decide +kernel
theorem d_Mo_printed_8 : decode c_Mo_printed 8 = .ok (.invokestatic 121, 3) := by decide +kernel
theorem d_Mo_printed_11 : decode c_Mo_printed 11 = .ok (.ifCond .eq 12, 3) := by decide +kernel
theorem d_Mo_printed_14 : decode c_Mo_printed 14 = .ok (.aload_n 0, 1) := by decide +kernel
theorem d_Mo_printed_15 : decode c_Mo_printed 15 = .ok (.getfield 39, 3) := by decide +kernel
theorem d_Mo_printed_18 : decode c_Mo_printed 18 = .ok (.iload_n 1, 1) := by decide +kernel
theorem d_Mo_printed_19 : decode c_Mo_printed 19 = .ok (.iaload, 1) := by decide +kernel
theorem d_Mo_printed_20 : decode c_Mo_printed 20 = .ok (.goto 5, 3) := by decide +kernel
theorem d_Mo_printed_23 : decode c_Mo_printed 23 = .ok (.bipush (-11), 2) := by decide +kernel
theorem d_Mo_printed_25 : decode c_Mo_printed 25 = .ok (.ireturn, 1) := by decide +kernel
theorem d_Mo_save_0 : decode c_Mo_save 0 = .ok (.iload_n 1, 1) := by decide +kernel
theorem d_Mo_save_1 : decode c_Mo_save 1 = .ok (.iconst 0, 1) := by decide +kernel
theorem d_Mo_save_2 : decode c_Mo_save 2 = .ok (.iconst 1, 1) := by decide +kernel
theorem d_Mo_save_3 : decode c_Mo_save 3 = .ok (.invokestatic 121, 3) := by decide +kernel
theorem d_Mo_save_6 : decode c_Mo_save 6 = .ok (.ifCond .ne 6, 3) := by decide +kernel
theorem d_Mo_save_9 : decode c_Mo_save 9 = .ok (.bipush (-11), 2) := by decide +kernel
theorem d_Mo_save_11 : decode c_Mo_save 11 = .ok (.ireturn, 1) := by decide +kernel
theorem d_Mo_save_12 : decode c_Mo_save 12 = .ok (.sipush 150, 3) := by decide +kernel
theorem d_Mo_save_15 : decode c_Mo_save 15 = .ok (.iload_n 1, 1) := by decide +kernel
theorem d_Mo_save_16 : decode c_Mo_save 16 = .ok (.imul, 1) := by decide +kernel
theorem d_Mo_save_17 : decode c_Mo_save 17 = .ok (.istore_n 2, 1) := by decide +kernel
theorem d_Mo_save_18 : decode c_Mo_save 18 = .ok (.aload_n 0, 1) := by decide +kernel
theorem d_Mo_save_19 : decode c_Mo_save 19 = .ok (.getfield 29, 3) := by decide +kernel
theorem d_Mo_save_22 : decode c_Mo_save 22 = .ok (.iload_n 2, 1) := by decide +kernel
theorem d_Mo_save_23 : decode c_Mo_save 23 = .ok (.aload_n 0, 1) := by decide +kernel
theorem d_Mo_save_24 : decode c_Mo_save 24 = .ok (.getfield 7, 3) := by decide +kernel
theorem d_Mo_save_27 : decode c_Mo_save 27 = .ok (.iconst 0, 1) := by decide +kernel
theorem d_Mo_save_28 : decode c_Mo_save 28 = .ok (.iaload, 1) := by decide +kernel
theorem d_Mo_save_29 : decode c_Mo_save 29 = .ok (.iastore, 1) := by decide +kernel
theorem d_Mo_save_30 : decode c_Mo_save 30 = .ok (.aload_n 0, 1) := by decide +kernel
theorem d_Mo_save_31 : decode c_Mo_save 31 = .ok (.getfield 29, 3) := by decide +kernel
theorem d_Mo_save_34 : decode c_Mo_save 34 = .ok (.iload_n 2, 1) := by decide +kernel
theorem d_Mo_save_35 : decode c_Mo_save 35 = .ok (.iconst 1, 1) := by decide +kernel
theorem d_Mo_save_36 : decode c_Mo_save 36 = .ok (.iadd, 1) := by decide +kernel
theorem d_Mo_save_37 : decode c_Mo_save 37 = .ok (.aload_n 0, 1) := by decide +kernel
theorem d_Mo_save_38 : decode c_Mo_save 38 = .ok (.getfield 7, 3) := by decide +kernel
theorem d_Mo_save_41 : decode c_Mo_save 41 = .ok (.iconst 1, 1) := by decide +kernel
theorem d_Mo_save_42 : decode c_Mo_save 42 = .ok (.iaload, 1) := by decide +kernel
theorem d_Mo_save_43 : decode c_Mo_save 43 = .ok (.iastore, 1) := by decide +kernel
theorem d_Mo_save_44 : decode c_Mo_save 44 = .ok (.aload_n 0, 1) := by decide +kernel
theorem d_Mo_save_45 : decode c_Mo_save 45 = .ok (.getfield 29, 3) := by decide +kernel
theorem d_Mo_save_48 : decode c_Mo_save 48 = .ok (.iload_n 2, 1) := by decide +kernel
theorem d_Mo_save_49 : decode c_Mo_save 49 = .ok (.iconst 2, 1) := by decide +kernel
theorem d_Mo_save_50 : decode c_Mo_save 50 = .ok (.iadd, 1) := by decide +kernel
theorem d_Mo_save_51 : decode c_Mo_save 51 = .ok (.aload_n 0, 1) := by decide +kernel
theorem d_Mo_save_52 : decode c_Mo_save 52 = .ok (.getfield 22, 3) := by decide +kernel
theorem d_Mo_save_55 : decode c_Mo_save 55 = .ok (.iastore, 1) := by decide +kernel
theorem d_Mo_save_56 : decode c_Mo_save 56 = .ok (.aload_n 0, 1) := by decide +kernel
theorem d_Mo_save_57 : decode c_Mo_save 57 = .ok (.getfield 29, 3) := by decide +kernel
theorem d_Mo_save_60 : decode c_Mo_save 60 = .ok (.iload_n 2, 1) := by decide +kernel
theorem d_Mo_save_61 : decode c_Mo_save 61 = .ok (.iconst 3, 1) := by decide +kernel
theorem d_Mo_save_62 : decode c_Mo_save 62 = .ok (.iadd, 1) := by decide +kernel
theorem d_Mo_save_63 : decode c_Mo_save 63 = .ok (.aload_n 0, 1) := by decide +kernel
theorem d_Mo_save_64 : decode c_Mo_save 64 = .ok (.getfield 26, 3) := by decide +kernel
theorem d_Mo_save_67 : decode c_Mo_save 67 = .ok (.iastore, 1) := by decide +kernel
theorem d_Mo_save_68 : decode c_Mo_save 68 = .ok (.iconst 0, 1) := by decide +kernel
theorem d_Mo_save_69 : decode c_Mo_save 69 = .ok (.istore_n 3, 1) := by decide +kernel
theorem d_Mo_save_70 : decode c_Mo_save 70 = .ok (.iload_n 3, 1) := by decide +kernel
theorem d_Mo_save_71 : decode c_Mo_save 71 = .ok (.bipush 48, 2) := by decide +kernel
theorem d_Mo_save_73 : decode c_Mo_save 73 = .ok (.if_icmp .ge 52, 3) := by decide +kernel
theorem d_Mo_save_76 : decode c_Mo_save 76 = .ok (.aload_n 0, 1) := by decide +kernel
theorem d_Mo_save_77 : decode c_Mo_save 77 = .ok (.getfield 29, 3) := by decide +kernel
theorem d_Mo_save_80 : decode c_Mo_save 80 = .ok (.iload_n 2, 1) := by decide +kernel
theorem d_Mo_save_81 : decode c_Mo_save 81 = .ok (.iconst 4, 1) := by decide +kernel
theorem d_Mo_save_82 : decode c_Mo_save 82 = .ok (.iadd, 1) := by decide +kernel
theorem d_Mo_save_83 : decode c_Mo_save 83 = .ok (.iload_n 3, 1) := by decide +kernel
theorem d_Mo_save_84 : decode c_Mo_save 84 = .ok (.iadd, 1) := by decide +kernel
theorem d_Mo_save_85 : decode c_Mo_save 85 = .ok (.bipush 100, 2) := by decide +kernel
theorem d_Mo_save_87 : decode c_Mo_save 87 = .ok (.aload_n 0, 1) := by decide +kernel
theorem d_Mo_save_88 : decode c_Mo_save 88 = .ok (.getfield 13, 3) := by decide +kernel
theorem d_Mo_save_91 : decode c_Mo_save 91 = .ok (.iload_n 3, 1) := by decide +kernel
theorem d_Mo_save_92 : decode c_Mo_save 92 = .ok (.iaload, 1) := by decide +kernel
theorem d_Mo_save_93 : decode c_Mo_save 93 = .ok (.imul, 1) := by decide +kernel
theorem d_Mo_save_94 : decode c_Mo_save 94 = .ok (.aload_n 0, 1) := by decide +kernel
theorem d_Mo_save_95 : decode c_Mo_save 95 = .ok (.getfield 16, 3) := by decide +kernel
theorem d_Mo_save_98 : decode c_Mo_save 98 = .ok (.iload_n 3, 1) := by decide +kernel
theorem d_Mo_save_99 : decode c_Mo_save 99 = .ok (.iaload, 1) := by decide +kernel
theorem d_Mo_save_100 : decode c_Mo_save 100 = .ok (.iadd, 1) := by decide +kernel
theorem d_Mo_save_101 : decode c_Mo_save 101 = .ok (.iastore, 1) := by decide +kernel
theorem d_Mo_save_102 : decode c_Mo_save 102 = .ok (.aload_n 0, 1) := by decide +kernel
theorem d_Mo_save_103 : decode c_Mo_save 103 = .ok (.getfield 29, 3) := by decide +kernel
theorem d_Mo_save_106 : decode c_Mo_save 106 = .ok (.iload_n 2, 1) := by decide +kernel
theorem d_Mo_save_107 : decode c_Mo_save 107 = .ok (.bipush 52, 2) := by decide +kernel
theorem d_Mo_save_109 : decode c_Mo_save 109 = .ok (.iadd, 1) := by decide +kernel
theorem d_Mo_save_110 : decode c_Mo_save 110 = .ok (.iload_n 3, 1) := by decide +kernel
theorem d_Mo_save_111 : decode c_Mo_save 111 = .ok (.iadd, 1) := by decide +kernel
theorem d_Mo_save_112 : decode c_Mo_save 112 = .ok (.aload_n 0, 1) := by decide +kernel
theorem d_Mo_save_113 : decode c_Mo_save 113 = .ok (.getfield 19, 3) := by decide +kernel
theorem d_Mo_save_116 : decode c_Mo_save 116 = .ok (.iload_n 3, 1) := by decide +kernel
theorem d_Mo_save_117 : decode c_Mo_save 117 = .ok (.iaload, 1) := by decide +kernel
theorem d_Mo_save_118 : decode c_Mo_save 118 = .ok (.iastore, 1) := by decide +kernel
theorem d_Mo_save_119 : decode c_Mo_save 119 = .ok (.iinc 3 1, 3) := by decide +kernel
theorem d_Mo_save_122 : decode c_Mo_save 122 = .ok (.goto (-52), 3) := by decide +kernel
theorem d_Mo_save_125 : decode c_Mo_save 125 = .ok (.aload_n 0, 1) := by decide +kernel
theorem d_Mo_save_126 : decode c_Mo_save 126 = .ok (.getfield 32, 3) := by decide +kernel
theorem d_Mo_save_129 : decode c_Mo_save 129 = .ok (.iload_n 1, 1) := by decide +kernel
theorem d_Mo_save_130 : decode c_Mo_save 130 = .ok (.iconst 1, 1) := by decide +kernel
theorem d_Mo_save_131 : decode c_Mo_save 131 = .ok (.bastore, 1) := by decide +kernel
theorem d_Mo_save_132 : decode c_Mo_save 132 = .ok (.aload_n 0, 1) := by decide +kernel
theorem d_Mo_save_133 : decode c_Mo_save 133 = .ok (.getfield 7, 3) := by decide +kernel
theorem d_Mo_save_136 : decode c_Mo_save 136 = .ok (.iconst 0, 1) := by decide +kernel
theorem d_Mo_save_137 : decode c_Mo_save 137 = .ok (.iaload, 1) := by decide +kernel
theorem d_Mo_save_138 : decode c_Mo_save 138 = .ok (.ireturn, 1) := by decide +kernel
theorem d_Mo_restore_0 : decode c_Mo_restore 0 = .ok (.iload_n 1, 1) := by decide +kernel
theorem d_Mo_restore_1 : decode c_Mo_restore 1 = .ok (.iconst 0, 1) := by decide +kernel
theorem d_Mo_restore_2 : decode c_Mo_restore 2 = .ok (.iconst 1, 1) := by decide +kernel
theorem d_Mo_restore_3 : decode c_Mo_restore 3 = .ok (.invokestatic 121, 3) := by decide +kernel
theorem d_Mo_restore_6 : decode c_Mo_restore 6 = .ok (.ifCond .ne 6, 3) := by decide +kernel
theorem d_Mo_restore_9 : decode c_Mo_restore 9 = .ok (.bipush (-11), 2) := by decide +kernel
theorem d_Mo_restore_11 : decode c_Mo_restore 11 = .ok (.ireturn, 1) := by decide +kernel
theorem d_Mo_restore_12 : decode c_Mo_restore 12 = .ok (.aload_n 0, 1) := by decide +kernel
theorem d_Mo_restore_13 : decode c_Mo_restore 13 = .ok (.getfield 32, 3) := by decide +kernel
theorem d_Mo_restore_16 : decode c_Mo_restore 16 = .ok (.iload_n 1, 1) := by decide +kernel
theorem d_Mo_restore_17 : decode c_Mo_restore 17 = .ok (.baload, 1) := by decide +kernel
theorem d_Mo_restore_18 : decode c_Mo_restore 18 = .ok (.ifCond .ne 6, 3) := by decide +kernel
theorem d_Mo_restore_21 : decode c_Mo_restore 21 = .ok (.bipush (-13), 2) := by decide +kernel
theorem d_Mo_restore_23 : decode c_Mo_restore 23 = .ok (.ireturn, 1) := by decide +kernel
theorem d_Mo_restore_24 : decode c_Mo_restore 24 = .ok (.sipush 150, 3) := by decide +kernel
theorem d_Mo_restore_27 : decode c_Mo_restore 27 = .ok (.iload_n 1, 1) := by decide +kernel
theorem d_Mo_restore_28 : decode c_Mo_restore 28 = .ok (.imul, 1) := by decide +kernel
theorem d_Mo_restore_29 : decode c_Mo_restore 29 = .ok (.istore_n 2, 1) := by decide +kernel
theorem d_Mo_restore_30 : decode c_Mo_restore 30 = .ok (.aload_n 0, 1) := by decide +kernel
theorem d_Mo_restore_31 : decode c_Mo_restore 31 = .ok (.getfield 7, 3) := by decide +kernel
theorem d_Mo_restore_34 : decode c_Mo_restore 34 = .ok (.iconst 0, 1) := by decide +kernel
theorem d_Mo_restore_35 : decode c_Mo_restore 35 = .ok (.aload_n 0, 1) := by decide +kernel
theorem d_Mo_restore_36 : decode c_Mo_restore 36 = .ok (.getfield 29, 3) := by decide +kernel
theorem d_Mo_restore_39 : decode c_Mo_restore 39 = .ok (.iload_n 2, 1) := by decide +kernel
theorem d_Mo_restore_40 : decode c_Mo_restore 40 = .ok (.iaload, 1) := by decide +kernel
theorem d_Mo_restore_41 : decode c_Mo_restore 41 = .ok (.iastore, 1) := by decide +kernel
theorem d_Mo_restore_42 : decode c_Mo_restore 42 = .ok (.aload_n 0, 1) := by decide +kernel
theorem d_Mo_restore_43 : decode c_Mo_restore 43 = .ok (.getfield 7, 3) := by decide +kernel
theorem d_Mo_restore_46 : decode c_Mo_restore 46 = .ok (.iconst 1, 1) := by decide +kernel
theorem d_Mo_restore_47 : decode c_Mo_restore 47 = .ok (.aload_n 0, 1) := by decide +kernel
theorem d_Mo_restore_48 : decode c_Mo_restore 48 = .ok (.getfield 29, 3) := by decide +kernel
theorem d_Mo_restore_51 : decode c_Mo_restore 51 = .ok (.iload_n 2, 1) := by decide +kernel
theorem d_Mo_restore_52 : decode c_Mo_restore 52 = .ok (.iconst 1, 1) := by decide +kernel
theorem d_Mo_restore_53 : decode c_Mo_restore 53 = .ok (.iadd, 1) := by decide +kernel
theorem d_Mo_restore_54 : decode c_Mo_restore 54 = .ok (.iaload, 1) := by decide +kernel
theorem d_Mo_restore_55 : decode c_Mo_restore 55 = .ok (.iastore, 1) := by decide +kernel
theorem d_Mo_restore_56 : decode c_Mo_restore 56 = .ok (.aload_n 0, 1) := by decide +kernel
theorem d_Mo_restore_57 : decode c_Mo_restore 57 = .ok (.aload_n 0, 1) := by decide +kernel
theorem d_Mo_restore_58 : decode c_Mo_restore 58 = .ok (.getfield 29, 3) := by decide +kernel
theorem d_Mo_restore_61 : decode c_Mo_restore 61 = .ok (.iload_n 2, 1) := by decide +kernel
theorem d_Mo_restore_62 : decode c_Mo_restore 62 = .ok (.iconst 2, 1) := by decide +kernel
theorem d_Mo_restore_63 : decode c_Mo_restore 63 = .ok (.iadd, 1) := by decide +kernel
theorem d_Mo_restore_64 : decode c_Mo_restore 64 = .ok (.iaload, 1) := by decide +kernel
theorem d_Mo_restore_65 : decode c_Mo_restore 65 = .ok (.putfield 22, 3) := by decide +kernel
theorem d_Mo_restore_68 : decode c_Mo_restore 68 = .ok (.aload_n 0, 1) := by decide +kernel
theorem d_Mo_restore_69 : decode c_Mo_restore 69 = .ok (.aload_n 0, 1) := by decide +kernel
theorem d_Mo_restore_70 : decode c_Mo_restore 70 = .ok (.getfield 29, 3) := by decide +kernel
theorem d_Mo_restore_73 : decode c_Mo_restore 73 = .ok (.iload_n 2, 1) := by decide +kernel
theorem d_Mo_restore_74 : decode c_Mo_restore 74 = .ok (.iconst 3, 1) := by decide +kernel
theorem d_Mo_restore_75 : decode c_Mo_restore 75 = .ok (.iadd, 1) := by decide +kernel
theorem d_Mo_restore_76 : decode c_Mo_restore 76 = .ok (.iaload, 1) := by decide +kernel
theorem d_Mo_restore_77 : decode c_Mo_restore 77 = .ok (.putfield 26, 3) := by decide +kernel
theorem d_Mo_restore_80 : decode c_Mo_restore 80 = .ok (.iconst 0, 1) := by decide +kernel
theorem d_Mo_restore_81 : decode c_Mo_restore 81 = .ok (.istore_n 3, 1) := by decide +kernel
theorem d_Mo_restore_82 : decode c_Mo_restore 82 = .ok (.iload_n 3, 1) := by decide +kernel
theorem d_Mo_restore_83 : decode c_Mo_restore 83 = .ok (.bipush 48, 2) := by decide +kernel
theorem d_Mo_restore_85 : decode c_Mo_restore 85 = .ok (.if_icmp .ge 64, 3) := by decide +kernel
theorem d_Mo_restore_88 : decode c_Mo_restore 88 = .ok (.aload_n 0, 1) := by decide +kernel
theorem d_Mo_restore_89 : decode c_Mo_restore 89 = .ok (.getfield 13, 3) := by decide +kernel
theorem d_Mo_restore_92 : decode c_Mo_restore 92 = .ok (.iload_n 3, 1) := by decide +kernel
theorem d_Mo_restore_93 : decode c_Mo_restore 93 = .ok (.aload_n 0, 1) := by decide +kernel
theorem d_Mo_restore_94 : decode c_Mo_restore 94 = .ok (.getfield 29, 3) := by decide +kernel
theorem d_Mo_restore_97 : decode c_Mo_restore 97 = .ok (.iload_n 2, 1) := by decide +kernel
theorem d_Mo_restore_98 : decode c_Mo_restore 98 = .ok (.iconst 4, 1) := by decide +kernel
theorem d_Mo_restore_99 : decode c_Mo_restore 99 = .ok (.iadd, 1) := by decide +kernel
theorem d_Mo_restore_100 : decode c_Mo_restore 100 = .ok (.iload_n 3, 1) := by decide +kernel
theorem d_Mo_restore_101 : decode c_Mo_restore 101 = .ok (.iadd, 1) := by decide +kernel
theorem d_Mo_restore_102 : decode c_Mo_restore 102 = .ok (.iaload, 1) := by decide +kernel
theorem d_Mo_restore_103 : decode c_Mo_restore 103 = .ok (.bipush 100, 2) := by decide +kernel
theorem d_Mo_restore_105 : decode c_Mo_restore 105 = .ok (.idiv, 1) := by decide +kernel
theorem d_Mo_restore_106 : decode c_Mo_restore 106 = .ok (.iastore, 1) := by decide +kernel
theorem d_Mo_restore_107 : decode c_Mo_restore 107 = .ok (.aload_n 0, 1) := by decide +kernel
theorem d_Mo_restore_108 : decode c_Mo_restore 108 = .ok (.getfield 16, 3) := by decide +kernel
theorem d_Mo_restore_111 : decode c_Mo_restore 111 = .ok (.iload_n 3, 1) := by decide +kernel
theorem d_Mo_restore_112 : decode c_Mo_restore 112 = .ok (.aload_n 0, 1) := by decide +kernel
theorem d_Mo_restore_113 : decode c_Mo_restore 113 = .ok (.getfield 29, 3) := by decide +kernel
theorem d_Mo_restore_116 : decode c_Mo_restore 116 = .ok (.iload_n 2, 1) := by decide +kernel
theorem d_Mo_restore_117 : decode c_Mo_restore 117 = .ok (.iconst 4, 1) := by decide +kernel
theorem d_Mo_restore_118 : decode c_Mo_restore 118 = .ok (.iadd, 1) := by decide +kernel
theorem d_Mo_restore_119 : decode c_Mo_restore 119 = .ok (.iload_n 3, 1) := by decide +kernel
theorem d_Mo_restore_120 : decode c_Mo_restore 120 = .ok (.iadd, 1) := by decide +kernel
theorem d_Mo_restore_121 : decode c_Mo_restore 121 = .ok (.iaload, 1) := by decide +kernel
theorem d_Mo_restore_122 : decode c_Mo_restore 122 = .ok (.bipush 100, 2) := by decide +kernel
theorem d_Mo_restore_124 : decode c_Mo_restore 124 = .ok (.irem, 1) := by decide +kernel
theorem d_Mo_restore_125 : decode c_Mo_restore 125 = .ok (.iastore, 1) := by decide +kernel
theorem d_Mo_restore_126 : decode c_Mo_restore 126 = .ok (.aload_n 0, 1) := by decide +kernel
theorem d_Mo_restore_127 : decode c_Mo_restore 127 = .ok (.getfield 19, 3) := by decide +kernel
theorem d_Mo_restore_130 : decode c_Mo_restore 130 = .ok (.iload_n 3, 1) := by decide +kernel
theorem d_Mo_restore_131 : decode c_Mo_restore 131 = .ok (.aload_n 0, 1) := by decide +kernel
theorem d_Mo_restore_132 : decode c_Mo_restore 132 = .ok (.getfield 29, 3) := by decide +kernel
theorem d_Mo_restore_135 : decode c_Mo_restore 135 = .ok (.iload_n 2, 1) := by decide +kernel
theorem d_Mo_restore_136 : decode c_Mo_restore 136 = .ok (.bipush 52, 2) := by decide +kernel
theorem d_Mo_restore_138 : decode c_Mo_restore 138 = .ok (.iadd, 1) := by decide +kernel
theorem d_Mo_restore_139 : decode c_Mo_restore 139 = .ok (.iload_n 3, 1) := by decide +kernel
theorem d_Mo_restore_140 : decode c_Mo_restore 140 = .ok (.iadd, 1) := by decide +kernel
theorem d_Mo_restore_141 : decode c_Mo_restore 141 = .ok (.iaload, 1) := by decide +kernel
theorem d_Mo_restore_142 : decode c_Mo_restore 142 = .ok (.iastore, 1) := by decide +kernel
theorem d_Mo_restore_143 : decode c_Mo_restore 143 = .ok (.iinc 3 1, 3) := by decide +kernel
theorem d_Mo_restore_146 : decode c_Mo_restore 146 = .ok (.goto (-64), 3) := by decide +kernel
theorem d_Mo_restore_149 : decode c_Mo_restore 149 = .ok (.aload_n 0, 1) := by decide +kernel
theorem d_Mo_restore_150 : decode c_Mo_restore 150 = .ok (.invokevirtual 118, 3) := by decide +kernel
theorem d_Mo_restore_153 : decode c_Mo_restore 153 = .ok (.aload_n 0, 1) := by decide +kernel
theorem d_Mo_restore_154 : decode c_Mo_restore 154 = .ok (.getfield 7, 3) := by decide +kernel
theorem d_Mo_restore_157 : decode c_Mo_restore 157 = .ok (.iconst 0, 1) := by decide +kernel
theorem d_Mo_restore_158 : decode c_Mo_restore 158 = .ok (.iaload, 1) := by decide +kernel
theorem d_Mo_restore_159 : decode c_Mo_restore 159 = .ok (.ireturn, 1) := by decide +kernel
theorem d_Mo_more_0 : decode c_Mo_more 0 = .ok (.ldc2_w 318, 3) := by decide +kernel
theorem d_Mo_more_3 : decode c_Mo_more 3 = .ok (.lload_n 0, 1) := by decide +kernel
theorem d_Mo_more_4 : decode c_Mo_more 4 = .ok (.lmul, 1) := by decide +kernel
theorem d_Mo_more_5 : decode c_Mo_more 5 = .ok (.iload_n 2, 1) := by decide +kernel
theorem d_Mo_more_6 : decode c_Mo_more 6 = .ok (.i2l, 1) := by decide +kernel
theorem d_Mo_more_7 : decode c_Mo_more 7 = .ok (.ladd, 1) := by decide +kernel
theorem d_Mo_more_8 : decode c_Mo_more 8 = .ok (.lreturn, 1) := by decide +kernel
theorem d_Mo_checksum_0 : decode c_Mo_checksum 0 = .ok (.ldc2_w 320, 3) := by decide +kernel
theorem d_Mo_checksum_3 : decode c_Mo_checksum 3 = .ok (.aload_n 0, 1) := by decide +kernel
theorem d_Mo_checksum_4 : decode c_Mo_checksum 4 = .ok (.getfield 7, 3) := by decide +kernel
theorem d_Mo_checksum_7 : decode c_Mo_checksum 7 = .ok (.iconst 0, 1) := by decide +kernel
theorem d_Mo_checksum_8 : decode c_Mo_checksum 8 = .ok (.iaload, 1) := by decide +kernel
theorem d_Mo_checksum_9 : decode c_Mo_checksum 9 = .ok (.invokestatic 322, 3) := by decide +kernel
theorem d_Mo_checksum_12 : decode c_Mo_checksum 12 = .ok (.aload_n 0, 1) := by decide +kernel
theorem d_Mo_checksum_13 : decode c_Mo_checksum 13 = .ok (.getfield 7, 3) := by decide +kernel
theorem d_Mo_checksum_16 : decode c_Mo_checksum 16 = .ok (.iconst 1, 1) := by decide +kernel
theorem d_Mo_checksum_17 : decode c_Mo_checksum 17 = .ok (.iaload, 1) := by decide +kernel
theorem d_Mo_checksum_18 : decode c_Mo_checksum 18 = .ok (.invokestatic 322, 3) := by decide +kernel
theorem d_Mo_checksum_21 : decode c_Mo_checksum 21 = .ok (.lstore_n 1, 1) := by decide +kernel
theorem d_Mo_checksum_22 : decode c_Mo_checksum 22 = .ok (.aload_n 0, 1) := by decide +kernel
theorem d_Mo_checksum_23 : decode c_Mo_checksum 23 = .ok (.invokevirtual 216, 3) := by decide +kernel
theorem d_Mo_checksum_26 : decode c_Mo_checksum 26 = .ok (.iconst 0, 1) := by decide +kernel
theorem d_Mo_checksum_27 : decode c_Mo_checksum 27 = .ok (.istore_n 3, 1) := by decide +kernel
theorem d_Mo_checksum_28 : decode c_Mo_checksum 28 = .ok (.iload_n 3, 1) := by decide +kernel
theorem d_Mo_checksum_29 : decode c_Mo_checksum 29 = .ok (.aload_n 0, 1) := by decide +kernel
theorem d_Mo_checksum_30 : decode c_Mo_checksum 30 = .ok (.getfield 7, 3) := by decide +kernel
theorem d_Mo_checksum_33 : decode c_Mo_checksum 33 = .ok (.iconst 0, 1) := by decide +kernel
theorem d_Mo_checksum_34 : decode c_Mo_checksum 34 = .ok (.iaload, 1) := by decide +kernel
theorem d_Mo_checksum_35 : decode c_Mo_checksum 35 = .ok (.if_icmp .ge 43, 3) := by decide +kernel
theorem d_Mo_checksum_38 : decode c_Mo_checksum 38 = .ok (.lload_n 1, 1) := by decide +kernel
theorem d_Mo_checksum_39 : decode c_Mo_checksum 39 = .ok (.aload_n 0, 1) := by decide +kernel
theorem d_Mo_checksum_40 : decode c_Mo_checksum 40 = .ok (.getfield 51, 3) := by decide +kernel
theorem d_Mo_checksum_43 : decode c_Mo_checksum 43 = .ok (.iload_n 3, 1) := by decide +kernel
theorem d_Mo_checksum_44 : decode c_Mo_checksum 44 = .ok (.iaload, 1) := by decide +kernel
theorem d_Mo_checksum_45 : decode c_Mo_checksum 45 = .ok (.ifCond .ge 8, 3) := by decide +kernel
theorem d_Mo_checksum_48 : decode c_Mo_checksum 48 = .ok (.bipush (-15), 2) := by decide +kernel
theorem d_Mo_checksum_50 : decode c_Mo_checksum 50 = .ok (.goto 9, 3) := by decide +kernel
theorem d_Mo_checksum_53 : decode c_Mo_checksum 53 = .ok (.aload_n 0, 1) := by decide +kernel
theorem d_Mo_checksum_54 : decode c_Mo_checksum 54 = .ok (.getfield 51, 3) := by decide +kernel
theorem d_Mo_checksum_57 : decode c_Mo_checksum 57 = .ok (.iload_n 3, 1) := by decide +kernel
theorem d_Mo_checksum_58 : decode c_Mo_checksum 58 = .ok (.iaload, 1) := by decide +kernel
theorem d_Mo_checksum_59 : decode c_Mo_checksum 59 = .ok (.invokestatic 322, 3) := by decide +kernel
theorem d_Mo_checksum_62 : decode c_Mo_checksum 62 = .ok (.aload_n 0, 1) := by decide +kernel
theorem d_Mo_checksum_63 : decode c_Mo_checksum 63 = .ok (.getfield 57, 3) := by decide +kernel
theorem d_Mo_checksum_66 : decode c_Mo_checksum 66 = .ok (.iload_n 3, 1) := by decide +kernel
theorem d_Mo_checksum_67 : decode c_Mo_checksum 67 = .ok (.iaload, 1) := by decide +kernel
theorem d_Mo_checksum_68 : decode c_Mo_checksum 68 = .ok (.invokestatic 322, 3) := by decide +kernel
theorem d_Mo_checksum_71 : decode c_Mo_checksum 71 = .ok (.lstore_n 1, 1) := by decide +kernel
theorem d_Mo_checksum_72 : decode c_Mo_checksum 72 = .ok (.iinc 3 1, 3) := by decide +kernel
theorem d_Mo_checksum_75 : decode c_Mo_checksum 75 = .ok (.goto (-47), 3) := by decide +kernel
theorem d_Mo_checksum_78 : decode c_Mo_checksum 78 = .ok (.lload_n 1, 1) := by decide +kernel
theorem d_Mo_checksum_79 : decode c_Mo_checksum 79 = .ok (.aload_n 0, 1) := by decide +kernel
theorem d_Mo_checksum_80 : decode c_Mo_checksum 80 = .ok (.getfield 225, 3) := by decide +kernel
theorem d_Mo_checksum_83 : decode c_Mo_checksum 83 = .ok (.invokestatic 322, 3) := by decide +kernel
theorem d_Mo_checksum_86 : decode c_Mo_checksum 86 = .ok (.lstore_n 1, 1) := by decide +kernel
theorem d_Mo_checksum_87 : decode c_Mo_checksum 87 = .ok (.iconst 0, 1) := by decide +kernel
theorem d_Mo_checksum_88 : decode c_Mo_checksum 88 = .ok (.istore_n 3, 1) := by decide +kernel
theorem d_Mo_checksum_89 : decode c_Mo_checksum 89 = .ok (.iload_n 3, 1) := by decide +kernel
theorem d_Mo_checksum_90 : decode c_Mo_checksum 90 = .ok (.bipush 6, 2) := by decide +kernel
theorem d_Mo_checksum_92 : decode c_Mo_checksum 92 = .ok (.aload_n 0, 1) := by decide +kernel
theorem d_Mo_checksum_93 : decode c_Mo_checksum 93 = .ok (.getfield 225, 3) := by decide +kernel
theorem d_Mo_checksum_96 : decode c_Mo_checksum 96 = .ok (.imul, 1) := by decide +kernel
theorem d_Mo_checksum_97 : decode c_Mo_checksum 97 = .ok (.if_icmp .ge 20, 3) := by decide +kernel
theorem d_Mo_checksum_100 : decode c_Mo_checksum 100 = .ok (.lload_n 1, 1) := by decide +kernel
theorem d_Mo_checksum_101 : decode c_Mo_checksum 101 = .ok (.aload_n 0, 1) := by decide +kernel
theorem d_Mo_checksum_102 : decode c_Mo_checksum 102 = .ok (.getfield 78, 3) := by decide +kernel
theorem d_Mo_checksum_105 : decode c_Mo_checksum 105 = .ok (.iload_n 3, 1) := by decide +kernel
theorem d_Mo_checksum_106 : decode c_Mo_checksum 106 = .ok (.iaload, 1) := by decide +kernel
theorem d_Mo_checksum_107 : decode c_Mo_checksum 107 = .ok (.invokestatic 322, 3) := by decide +kernel
theorem d_Mo_checksum_110 : decode c_Mo_checksum 110 = .ok (.lstore_n 1, 1) := by decide +kernel
theorem d_Mo_checksum_111 : decode c_Mo_checksum 111 = .ok (.iinc 3 1, 3) := by decide +kernel
theorem d_Mo_checksum_114 : decode c_Mo_checksum 114 = .ok (.goto (-25), 3) := by decide +kernel
theorem d_Mo_checksum_117 : decode c_Mo_checksum 117 = .ok (.lload_n 1, 1) := by decide +kernel
theorem d_Mo_checksum_118 : decode c_Mo_checksum 118 = .ok (.aload_n 0, 1) := by decide +kernel
theorem d_Mo_checksum_119 : decode c_Mo_checksum 119 = .ok (.invokevirtual 326, 3) := by decide +kernel
theorem d_Mo_checksum_122 : decode c_Mo_checksum 122 = .ok (.invokestatic 322, 3) := by decide +kernel
theorem d_Mo_checksum_125 : decode c_Mo_checksum 125 = .ok (.lstore_n 1, 1) := by decide +kernel
theorem d_Mo_checksum_126 : decode c_Mo_checksum 126 = .ok (.aload_n 0, 1) := by decide +kernel
theorem d_Mo_checksum_127 : decode c_Mo_checksum 127 = .ok (.invokevirtual 312, 3) := by decide +kernel
theorem d_Mo_checksum_130 : decode c_Mo_checksum 130 = .ok (.lload_n 1, 1) := by decide +kernel
theorem d_Mo_checksum_131 : decode c_Mo_checksum 131 = .ok (.aload_n 0, 1) := by decide +kernel
theorem d_Mo_checksum_132 : decode c_Mo_checksum 132 = .ok (.getfield 303, 3) := by decide +kernel
theorem d_Mo_checksum_135 : decode c_Mo_checksum 135 = .ok (.invokestatic 322, 3) := by decide +kernel
theorem d_Mo_checksum_138 : decode c_Mo_checksum 138 = .ok (.lstore_n 1, 1) := by decide +kernel
theorem d_Mo_checksum_139 : decode c_Mo_checksum 139 = .ok (.iconst 0, 1) := by decide +kernel
theorem d_Mo_checksum_140 : decode c_Mo_checksum 140 = .ok (.istore_n 3, 1) := by decide +kernel
theorem d_Mo_checksum_141 : decode c_Mo_checksum 141 = .ok (.iload_n 3, 1) := by decide +kernel
theorem d_Mo_checksum_142 : decode c_Mo_checksum 142 = .ok (.aload_n 0, 1) := by decide +kernel
theorem d_Mo_checksum_143 : decode c_Mo_checksum 143 = .ok (.getfield 303, 3) := by decide +kernel
theorem d_Mo_checksum_146 : decode c_Mo_checksum 146 = .ok (.if_icmp .ge 20, 3) := by decide +kernel
theorem d_Mo_checksum_149 : decode c_Mo_checksum 149 = .ok (.lload_n 1, 1) := by decide +kernel
theorem d_Mo_checksum_150 : decode c_Mo_checksum 150 = .ok (.aload_n 0, 1) := by decide +kernel
theorem d_Mo_checksum_151 : decode c_Mo_checksum 151 = .ok (.getfield 105, 3) := by decide +kernel
theorem d_Mo_checksum_154 : decode c_Mo_checksum 154 = .ok (.iload_n 3, 1) := by decide +kernel
theorem d_Mo_checksum_155 : decode c_Mo_checksum 155 = .ok (.iaload, 1) := by decide +kernel
theorem d_Mo_checksum_156 : decode c_Mo_checksum 156 = .ok (.invokestatic 322, 3) := by decide +kernel
theorem d_Mo_checksum_159 : decode c_Mo_checksum 159 = .ok (.lstore_n 1, 1) := by decide +kernel
theorem d_Mo_checksum_160 : decode c_Mo_checksum 160 = .ok (.iinc 3 1, 3) := by decide +kernel
theorem d_Mo_checksum_163 : decode c_Mo_checksum 163 = .ok (.goto (-22), 3) := by decide +kernel
theorem d_Mo_checksum_166 : decode c_Mo_checksum 166 = .ok (.lload_n 1, 1) := by decide +kernel
theorem d_Mo_checksum_167 : decode c_Mo_checksum 167 = .ok (.lreturn, 1) := by decide +kernel
