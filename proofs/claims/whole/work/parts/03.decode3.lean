theorem dX11_lands_10 : decode cX11_lands 10 = .ok (.invokevirtual 328, 3) := by decide +kernel
theorem dX11_lands_13 : decode cX11_lands 13 = .ok (.ifCond .eq 20, 3) := by decide +kernel
theorem dX11_lands_16 : decode cX11_lands 16 = .ok (.iload_n 3, 1) := by decide +kernel
theorem dX11_lands_17 : decode cX11_lands 17 = .ok (.invokestatic 338, 3) := by decide +kernel
theorem dX11_lands_20 : decode cX11_lands 20 = .ok (.ifCond .eq 13, 3) := by decide +kernel
theorem dX11_lands_23 : decode cX11_lands 23 = .ok (.aload_n 0, 1) := by decide +kernel
theorem dX11_lands_24 : decode cX11_lands 24 = .ok (.iload_n 1, 1) := by decide +kernel
theorem dX11_lands_25 : decode cX11_lands 25 = .ok (.iload_n 2, 1) := by decide +kernel
theorem dX11_lands_26 : decode cX11_lands 26 = .ok (.iload_n 3, 1) := by decide +kernel
theorem dX11_lands_27 : decode cX11_lands 27 = .ok (.invokevirtual 341, 3) := by decide +kernel
theorem dX11_lands_30 : decode cX11_lands 30 = .ok (.goto 4, 3) := by decide +kernel
theorem dX11_lands_33 : decode cX11_lands 33 = .ok (.iconst (-1), 1) := by decide +kernel
theorem dX11_lands_34 : decode cX11_lands 34 = .ok (.ireturn, 1) := by decide +kernel
theorem dX11_aimOf_0 : decode cX11_aimOf 0 = .ok (.iconst (-1), 1) := by decide +kernel
theorem dX11_aimOf_1 : decode cX11_aimOf 1 = .ok (.istore_n 3, 1) := by decide +kernel
theorem dX11_aimOf_2 : decode cX11_aimOf 2 = .ok (.iconst 1, 1) := by decide +kernel
theorem dX11_aimOf_3 : decode cX11_aimOf 3 = .ok (.istore 4, 2) := by decide +kernel
theorem dX11_aimOf_5 : decode cX11_aimOf 5 = .ok (.iload 4, 2) := by decide +kernel
theorem dX11_aimOf_7 : decode cX11_aimOf 7 = .ok (.bipush 9, 2) := by decide +kernel
theorem dX11_aimOf_9 : decode cX11_aimOf 9 = .ok (.if_icmp .gt 60, 3) := by decide +kernel
theorem dX11_aimOf_12 : decode cX11_aimOf 12 = .ok (.aload_n 0, 1) := by decide +kernel
theorem dX11_aimOf_13 : decode cX11_aimOf 13 = .ok (.iload_n 1, 1) := by decide +kernel
theorem dX11_aimOf_14 : decode cX11_aimOf 14 = .ok (.iload_n 2, 1) := by decide +kernel
theorem dX11_aimOf_15 : decode cX11_aimOf 15 = .ok (.iload 4, 2) := by decide +kernel
theorem dX11_aimOf_17 : decode cX11_aimOf 17 = .ok (.invokevirtual 341, 3) := by decide +kernel
theorem dX11_aimOf_20 : decode cX11_aimOf 20 = .ok (.istore 5, 2) := by decide +kernel
theorem dX11_aimOf_22 : decode cX11_aimOf 22 = .ok (.aload_n 0, 1) := by decide +kernel
theorem dX11_aimOf_23 : decode cX11_aimOf 23 = .ok (.iload 5, 2) := by decide +kernel
theorem dX11_aimOf_25 : decode cX11_aimOf 25 = .ok (.invokevirtual 304, 3) := by decide +kernel
theorem dX11_aimOf_28 : decode cX11_aimOf 28 = .ok (.ifCond .ne 33, 3) := by decide +kernel
theorem dX11_aimOf_31 : decode cX11_aimOf 31 = .ok (.iload_n 3, 1) := by decide +kernel
theorem dX11_aimOf_32 : decode cX11_aimOf 32 = .ok (.iconst (-1), 1) := by decide +kernel
theorem dX11_aimOf_33 : decode cX11_aimOf 33 = .ok (.if_icmp .eq 23, 3) := by decide +kernel
theorem dX11_aimOf_36 : decode cX11_aimOf 36 = .ok (.aload_n 0, 1) := by decide +kernel
theorem dX11_aimOf_37 : decode cX11_aimOf 37 = .ok (.iload 5, 2) := by decide +kernel
theorem dX11_aimOf_39 : decode cX11_aimOf 39 = .ok (.invokevirtual 307, 3) := by decide +kernel
theorem dX11_aimOf_42 : decode cX11_aimOf 42 = .ok (.aload_n 0, 1) := by decide +kernel
theorem dX11_aimOf_43 : decode cX11_aimOf 43 = .ok (.aload_n 0, 1) := by decide +kernel
theorem dX11_aimOf_44 : decode cX11_aimOf 44 = .ok (.iload_n 1, 1) := by decide +kernel
theorem dX11_aimOf_45 : decode cX11_aimOf 45 = .ok (.iload_n 2, 1) := by decide +kernel
theorem dX11_aimOf_46 : decode cX11_aimOf 46 = .ok (.iload_n 3, 1) := by decide +kernel
theorem dX11_aimOf_47 : decode cX11_aimOf 47 = .ok (.invokevirtual 341, 3) := by decide +kernel
theorem dX11_aimOf_50 : decode cX11_aimOf 50 = .ok (.invokevirtual 307, 3) := by decide +kernel
theorem dX11_aimOf_53 : decode cX11_aimOf 53 = .ok (.if_icmp .ge 8, 3) := by decide +kernel
theorem dX11_aimOf_56 : decode cX11_aimOf 56 = .ok (.iload 4, 2) := by decide +kernel
theorem dX11_aimOf_58 : decode cX11_aimOf 58 = .ok (.goto 4, 3) := by decide +kernel
theorem dX11_aimOf_61 : decode cX11_aimOf 61 = .ok (.iload_n 3, 1) := by decide +kernel
theorem dX11_aimOf_62 : decode cX11_aimOf 62 = .ok (.istore_n 3, 1) := by decide +kernel
theorem dX11_aimOf_63 : decode cX11_aimOf 63 = .ok (.iinc 4 1, 3) := by decide +kernel
theorem dX11_aimOf_66 : decode cX11_aimOf 66 = .ok (.goto (-61), 3) := by decide +kernel
theorem dX11_aimOf_69 : decode cX11_aimOf 69 = .ok (.iload_n 3, 1) := by decide +kernel
theorem dX11_aimOf_70 : decode cX11_aimOf 70 = .ok (.ireturn, 1) := by decide +kernel
theorem dX11_aim_0 : decode cX11_aim 0 = .ok (.aload_n 0, 1) := by decide +kernel
theorem dX11_aim_1 : decode cX11_aim 1 = .ok (.iload_n 1, 1) := by decide +kernel
theorem dX11_aim_2 : decode cX11_aim 2 = .ok (.invokevirtual 325, 3) := by decide +kernel
theorem dX11_aim_5 : decode cX11_aim 5 = .ok (.ifCond .eq 20, 3) := by decide +kernel
theorem dX11_aim_8 : decode cX11_aim 8 = .ok (.aload_n 0, 1) := by decide +kernel
theorem dX11_aim_9 : decode cX11_aim 9 = .ok (.iload_n 2, 1) := by decide +kernel
theorem dX11_aim_10 : decode cX11_aim 10 = .ok (.invokevirtual 328, 3) := by decide +kernel
theorem dX11_aim_13 : decode cX11_aim 13 = .ok (.ifCond .eq 12, 3) := by decide +kernel
theorem dX11_aim_16 : decode cX11_aim 16 = .ok (.aload_n 0, 1) := by decide +kernel
theorem dX11_aim_17 : decode cX11_aim 17 = .ok (.iload_n 1, 1) := by decide +kernel
theorem dX11_aim_18 : decode cX11_aim 18 = .ok (.iload_n 2, 1) := by decide +kernel
theorem dX11_aim_19 : decode cX11_aim 19 = .ok (.invokevirtual 398, 3) := by decide +kernel
theorem dX11_aim_22 : decode cX11_aim 22 = .ok (.goto 4, 3) := by decide +kernel
theorem dX11_aim_25 : decode cX11_aim 25 = .ok (.iconst (-1), 1) := by decide +kernel
theorem dX11_aim_26 : decode cX11_aim 26 = .ok (.ireturn, 1) := by decide +kernel
theorem dX11_wins_0 : decode cX11_wins 0 = .ok (.aload_n 0, 1) := by decide +kernel
theorem dX11_wins_1 : decode cX11_wins 1 = .ok (.iload_n 1, 1) := by decide +kernel
theorem dX11_wins_2 : decode cX11_wins 2 = .ok (.iload_n 2, 1) := by decide +kernel
theorem dX11_wins_3 : decode cX11_wins 3 = .ok (.iload_n 3, 1) := by decide +kernel
theorem dX11_wins_4 : decode cX11_wins 4 = .ok (.iload 4, 2) := by decide +kernel
theorem dX11_wins_6 : decode cX11_wins 6 = .ok (.invokevirtual 350, 3) := by decide +kernel
theorem dX11_wins_9 : decode cX11_wins 9 = .ok (.iconst (-1), 1) := by decide +kernel
theorem dX11_wins_10 : decode cX11_wins 10 = .ok (.if_icmp .ne 23, 3) := by decide +kernel
theorem dX11_wins_13 : decode cX11_wins 13 = .ok (.aload_n 0, 1) := by decide +kernel
theorem dX11_wins_14 : decode cX11_wins 14 = .ok (.aload_n 0, 1) := by decide +kernel
theorem dX11_wins_15 : decode cX11_wins 15 = .ok (.iload_n 1, 1) := by decide +kernel
theorem dX11_wins_16 : decode cX11_wins 16 = .ok (.iload_n 2, 1) := by decide +kernel
theorem dX11_wins_17 : decode cX11_wins 17 = .ok (.invokevirtual 344, 3) := by decide +kernel
theorem dX11_wins_20 : decode cX11_wins 20 = .ok (.aload_n 0, 1) := by decide +kernel
theorem dX11_wins_21 : decode cX11_wins 21 = .ok (.iload_n 3, 1) := by decide +kernel
theorem dX11_wins_22 : decode cX11_wins 22 = .ok (.iload 4, 2) := by decide +kernel
theorem dX11_wins_24 : decode cX11_wins 24 = .ok (.invokevirtual 344, 3) := by decide +kernel
theorem dX11_wins_27 : decode cX11_wins 27 = .ok (.invokevirtual 347, 3) := by decide +kernel
theorem dX11_wins_30 : decode cX11_wins 30 = .ok (.goto 6, 3) := by decide +kernel
theorem dX11_wins_33 : decode cX11_wins 33 = .ok (.ldc_w 331, 3) := by decide +kernel
theorem dX11_wins_36 : decode cX11_wins 36 = .ok (.ireturn, 1) := by decide +kernel
theorem dX11_weather_0 : decode cX11_weather 0 = .ok (.aload_n 0, 1) := by decide +kernel
theorem dX11_weather_1 : decode cX11_weather 1 = .ok (.getfield 261, 3) := by decide +kernel
theorem dX11_weather_4 : decode cX11_weather 4 = .ok (.ifCond .le 18, 3) := by decide +kernel
theorem dX11_weather_7 : decode cX11_weather 7 = .ok (.iload_n 1, 1) := by decide +kernel
theorem dX11_weather_8 : decode cX11_weather 8 = .ok (.invokestatic 401, 3) := by decide +kernel
theorem dX11_weather_11 : decode cX11_weather 11 = .ok (.ifCond .eq 11, 3) := by decide +kernel
theorem dX11_weather_14 : decode cX11_weather 14 = .ok (.aload_n 0, 1) := by decide +kernel
theorem dX11_weather_15 : decode cX11_weather 15 = .ok (.iload_n 1, 1) := by decide +kernel
theorem dX11_weather_16 : decode cX11_weather 16 = .ok (.invokevirtual 319, 3) := by decide +kernel
theorem dX11_weather_19 : decode cX11_weather 19 = .ok (.goto 6, 3) := by decide +kernel
theorem dX11_weather_22 : decode cX11_weather 22 = .ok (.ldc_w 331, 3) := by decide +kernel
theorem dX11_weather_25 : decode cX11_weather 25 = .ok (.ireturn, 1) := by decide +kernel
theorem dX11_spell_0 : decode cX11_spell 0 = .ok (.aload_n 0, 1) := by decide +kernel
theorem dX11_spell_1 : decode cX11_spell 1 = .ok (.getfield 261, 3) := by decide +kernel
theorem dX11_spell_4 : decode cX11_spell 4 = .ok (.ifCond .le 26, 3) := by decide +kernel
theorem dX11_spell_7 : decode cX11_spell 7 = .ok (.iload_n 1, 1) := by decide +kernel
theorem dX11_spell_8 : decode cX11_spell 8 = .ok (.invokestatic 401, 3) := by decide +kernel
theorem dX11_spell_11 : decode cX11_spell 11 = .ok (.ifCond .eq 19, 3) := by decide +kernel
theorem dX11_spell_14 : decode cX11_spell 14 = .ok (.iload_n 2, 1) := by decide +kernel
theorem dX11_spell_15 : decode cX11_spell 15 = .ok (.invokestatic 404, 3) := by decide +kernel
theorem dX11_spell_18 : decode cX11_spell 18 = .ok (.ifCond .eq 12, 3) := by decide +kernel
theorem dX11_spell_21 : decode cX11_spell 21 = .ok (.aload_n 0, 1) := by decide +kernel
theorem dX11_spell_22 : decode cX11_spell 22 = .ok (.iload_n 1, 1) := by decide +kernel
theorem dX11_spell_23 : decode cX11_spell 23 = .ok (.iload_n 2, 1) := by decide +kernel
theorem dX11_spell_24 : decode cX11_spell 24 = .ok (.invokevirtual 313, 3) := by decide +kernel
theorem dX11_spell_27 : decode cX11_spell 27 = .ok (.goto 4, 3) := by decide +kernel
theorem dX11_spell_30 : decode cX11_spell 30 = .ok (.iconst (-1), 1) := by decide +kernel
theorem dX11_spell_31 : decode cX11_spell 31 = .ok (.ireturn, 1) := by decide +kernel
theorem dX11_tryOwners_0 : decode cX11_tryOwners 0 = .ok (.aload_n 0, 1) := by decide +kernel
theorem dX11_tryOwners_1 : decode cX11_tryOwners 1 = .ok (.getfield 407, 3) := by decide +kernel
theorem dX11_tryOwners_4 : decode cX11_tryOwners 4 = .ok (.iconst (-1), 1) := by decide +kernel
theorem dX11_tryOwners_5 : decode cX11_tryOwners 5 = .ok (.if_icmp .eq 12, 3) := by decide +kernel
theorem dX11_tryOwners_8 : decode cX11_tryOwners 8 = .ok (.iload_n 3, 1) := by decide +kernel
theorem dX11_tryOwners_9 : decode cX11_tryOwners 9 = .ok (.aload_n 0, 1) := by decide +kernel
theorem dX11_tryOwners_10 : decode cX11_tryOwners 10 = .ok (.getfield 410, 3) := by decide +kernel
theorem dX11_tryOwners_13 : decode cX11_tryOwners 13 = .ok (.if_icmp .le 4, 3) := by decide +kernel
theorem dX11_tryOwners_16 : decode cX11_tryOwners 16 = .ok (.return_, 1) := by decide +kernel
theorem dX11_tryOwners_17 : decode cX11_tryOwners 17 = .ok (.iload_n 1, 1) := by decide +kernel
theorem dX11_tryOwners_18 : decode cX11_tryOwners 18 = .ok (.aload_n 0, 1) := by decide +kernel
theorem dX11_tryOwners_19 : decode cX11_tryOwners 19 = .ok (.getfield 261, 3) := by decide +kernel
theorem dX11_tryOwners_22 : decode cX11_tryOwners 22 = .ok (.if_icmp .ne 65, 3) := by decide +kernel
theorem dX11_tryOwners_25 : decode cX11_tryOwners 25 = .ok (.aload_n 0, 1) := by decide +kernel
theorem dX11_tryOwners_26 : decode cX11_tryOwners 26 = .ok (.invokevirtual 369, 3) := by decide +kernel
theorem dX11_tryOwners_29 : decode cX11_tryOwners 29 = .ok (.iconst 1, 1) := by decide +kernel
theorem dX11_tryOwners_30 : decode cX11_tryOwners 30 = .ok (.aload_n 0, 1) := by decide +kernel
theorem dX11_tryOwners_31 : decode cX11_tryOwners 31 = .ok (.getfield 264, 3) := by decide +kernel
theorem dX11_tryOwners_34 : decode cX11_tryOwners 34 = .ok (.ishl, 1) := by decide +kernel
theorem dX11_tryOwners_35 : decode cX11_tryOwners 35 = .ok (.iconst 1, 1) := by decide +kernel
theorem dX11_tryOwners_36 : decode cX11_tryOwners 36 = .ok (.isub, 1) := by decide +kernel
theorem dX11_tryOwners_37 : decode cX11_tryOwners 37 = .ok (.if_icmp .ne 7, 3) := by decide +kernel
theorem dX11_tryOwners_40 : decode cX11_tryOwners 40 = .ok (.iconst 1, 1) := by decide +kernel
theorem dX11_tryOwners_41 : decode cX11_tryOwners 41 = .ok (.goto 4, 3) := by decide +kernel
theorem dX11_tryOwners_44 : decode cX11_tryOwners 44 = .ok (.iconst 0, 1) := by decide +kernel
theorem dX11_tryOwners_45 : decode cX11_tryOwners 45 = .ok (.istore 4, 2) := by decide +kernel
theorem dX11_tryOwners_47 : decode cX11_tryOwners 47 = .ok (.iload 4, 2) := by decide +kernel
theorem dX11_tryOwners_49 : decode cX11_tryOwners 49 = .ok (.ifCond .eq 37, 3) := by decide +kernel
theorem dX11_tryOwners_52 : decode cX11_tryOwners 52 = .ok (.aload_n 0, 1) := by decide +kernel
theorem dX11_tryOwners_53 : decode cX11_tryOwners 53 = .ok (.getfield 407, 3) := by decide +kernel
theorem dX11_tryOwners_56 : decode cX11_tryOwners 56 = .ok (.iconst (-1), 1) := by decide +kernel
theorem dX11_tryOwners_57 : decode cX11_tryOwners 57 = .ok (.if_icmp .eq 19, 3) := by decide +kernel
theorem dX11_tryOwners_60 : decode cX11_tryOwners 60 = .ok (.iload_n 3, 1) := by decide +kernel
theorem dX11_tryOwners_61 : decode cX11_tryOwners 61 = .ok (.aload_n 0, 1) := by decide +kernel
theorem dX11_tryOwners_62 : decode cX11_tryOwners 62 = .ok (.getfield 410, 3) := by decide +kernel
theorem dX11_tryOwners_65 : decode cX11_tryOwners 65 = .ok (.if_icmp .lt 11, 3) := by decide +kernel
theorem dX11_tryOwners_68 : decode cX11_tryOwners 68 = .ok (.iload_n 2, 1) := by decide +kernel
theorem dX11_tryOwners_69 : decode cX11_tryOwners 69 = .ok (.aload_n 0, 1) := by decide +kernel
theorem dX11_tryOwners_70 : decode cX11_tryOwners 70 = .ok (.getfield 407, 3) := by decide +kernel
theorem dX11_tryOwners_73 : decode cX11_tryOwners 73 = .ok (.if_icmp .ge 13, 3) := by decide +kernel
theorem dX11_tryOwners_76 : decode cX11_tryOwners 76 = .ok (.aload_n 0, 1) := by decide +kernel
theorem dX11_tryOwners_77 : decode cX11_tryOwners 77 = .ok (.iload_n 2, 1) := by decide +kernel
theorem dX11_tryOwners_78 : decode cX11_tryOwners 78 = .ok (.putfield 407, 3) := by decide +kernel
theorem dX11_tryOwners_81 : decode cX11_tryOwners 81 = .ok (.aload_n 0, 1) := by decide +kernel
theorem dX11_tryOwners_82 : decode cX11_tryOwners 82 = .ok (.iload_n 3, 1) := by decide +kernel
theorem dX11_tryOwners_83 : decode cX11_tryOwners 83 = .ok (.putfield 410, 3) := by decide +kernel
theorem dX11_tryOwners_86 : decode cX11_tryOwners 86 = .ok (.return_, 1) := by decide +kernel
theorem dX11_tryOwners_87 : decode cX11_tryOwners 87 = .ok (.aload_n 0, 1) := by decide +kernel
theorem dX11_tryOwners_88 : decode cX11_tryOwners 88 = .ok (.getfield 64, 3) := by decide +kernel
theorem dX11_tryOwners_91 : decode cX11_tryOwners 91 = .ok (.iconst 0, 1) := by decide +kernel
theorem dX11_tryOwners_92 : decode cX11_tryOwners 92 = .ok (.iload_n 1, 1) := by decide +kernel
theorem dX11_tryOwners_93 : decode cX11_tryOwners 93 = .ok (.iadd, 1) := by decide +kernel
theorem dX11_tryOwners_94 : decode cX11_tryOwners 94 = .ok (.iaload, 1) := by decide +kernel
theorem dX11_tryOwners_95 : decode cX11_tryOwners 95 = .ok (.istore 4, 2) := by decide +kernel
theorem dX11_tryOwners_97 : decode cX11_tryOwners 97 = .ok (.aload_n 0, 1) := by decide +kernel
theorem dX11_tryOwners_98 : decode cX11_tryOwners 98 = .ok (.iload_n 1, 1) := by decide +kernel
theorem dX11_tryOwners_99 : decode cX11_tryOwners 99 = .ok (.invokevirtual 332, 3) := by decide +kernel
theorem dX11_tryOwners_102 : decode cX11_tryOwners 102 = .ok (.ifCond .ne 30, 3) := by decide +kernel
theorem dX11_tryOwners_105 : decode cX11_tryOwners 105 = .ok (.aload_n 0, 1) := by decide +kernel
theorem dX11_tryOwners_106 : decode cX11_tryOwners 106 = .ok (.iload_n 1, 1) := by decide +kernel
theorem dX11_tryOwners_107 : decode cX11_tryOwners 107 = .ok (.iconst 1, 1) := by decide +kernel
theorem dX11_tryOwners_108 : decode cX11_tryOwners 108 = .ok (.iadd, 1) := by decide +kernel
theorem dX11_tryOwners_109 : decode cX11_tryOwners 109 = .ok (.bipush 10, 2) := by decide +kernel
theorem dX11_tryOwners_111 : decode cX11_tryOwners 111 = .ok (.iload_n 2, 1) := by decide +kernel
theorem dX11_tryOwners_112 : decode cX11_tryOwners 112 = .ok (.imul, 1) := by decide +kernel
theorem dX11_tryOwners_113 : decode cX11_tryOwners 113 = .ok (.iload 4, 2) := by decide +kernel
theorem dX11_tryOwners_115 : decode cX11_tryOwners 115 = .ok (.iconst (-1), 1) := by decide +kernel
theorem dX11_tryOwners_116 : decode cX11_tryOwners 116 = .ok (.if_icmp .ne 8, 3) := by decide +kernel
theorem dX11_tryOwners_119 : decode cX11_tryOwners 119 = .ok (.bipush 9, 2) := by decide +kernel
theorem dX11_tryOwners_121 : decode cX11_tryOwners 121 = .ok (.goto 5, 3) := by decide +kernel
theorem dX11_tryOwners_124 : decode cX11_tryOwners 124 = .ok (.iload 4, 2) := by decide +kernel
theorem dX11_tryOwners_126 : decode cX11_tryOwners 126 = .ok (.iadd, 1) := by decide +kernel
theorem dX11_tryOwners_127 : decode cX11_tryOwners 127 = .ok (.iload_n 3, 1) := by decide +kernel
theorem dX11_tryOwners_128 : decode cX11_tryOwners 128 = .ok (.invokevirtual 413, 3) := by decide +kernel
theorem dX11_tryOwners_131 : decode cX11_tryOwners 131 = .ok (.return_, 1) := by decide +kernel
theorem dX11_tryOwners_132 : decode cX11_tryOwners 132 = .ok (.iconst 0, 1) := by decide +kernel
theorem dX11_tryOwners_133 : decode cX11_tryOwners 133 = .ok (.istore 5, 2) := by decide +kernel
theorem dX11_tryOwners_135 : decode cX11_tryOwners 135 = .ok (.iload 5, 2) := by decide +kernel
theorem dX11_tryOwners_137 : decode cX11_tryOwners 137 = .ok (.aload_n 0, 1) := by decide +kernel
theorem dX11_tryOwners_138 : decode cX11_tryOwners 138 = .ok (.getfield 258, 3) := by decide +kernel
theorem dX11_tryOwners_141 : decode cX11_tryOwners 141 = .ok (.if_icmp .ge 47, 3) := by decide +kernel
theorem dX11_tryOwners_144 : decode cX11_tryOwners 144 = .ok (.aload_n 0, 1) := by decide +kernel
theorem dX11_tryOwners_145 : decode cX11_tryOwners 145 = .ok (.getfield 64, 3) := by decide +kernel
theorem dX11_tryOwners_148 : decode cX11_tryOwners 148 = .ok (.iconst 0, 1) := by decide +kernel
theorem dX11_tryOwners_149 : decode cX11_tryOwners 149 = .ok (.iload_n 1, 1) := by decide +kernel
theorem dX11_tryOwners_150 : decode cX11_tryOwners 150 = .ok (.iadd, 1) := by decide +kernel
theorem dX11_tryOwners_151 : decode cX11_tryOwners 151 = .ok (.iload 5, 2) := by decide +kernel
theorem dX11_tryOwners_153 : decode cX11_tryOwners 153 = .ok (.iastore, 1) := by decide +kernel
theorem dX11_tryOwners_154 : decode cX11_tryOwners 154 = .ok (.aload_n 0, 1) := by decide +kernel
theorem dX11_tryOwners_155 : decode cX11_tryOwners 155 = .ok (.iload_n 1, 1) := by decide +kernel
theorem dX11_tryOwners_156 : decode cX11_tryOwners 156 = .ok (.iconst 1, 1) := by decide +kernel
theorem dX11_tryOwners_157 : decode cX11_tryOwners 157 = .ok (.iadd, 1) := by decide +kernel
theorem dX11_tryOwners_158 : decode cX11_tryOwners 158 = .ok (.bipush 10, 2) := by decide +kernel
theorem dX11_tryOwners_160 : decode cX11_tryOwners 160 = .ok (.iload_n 2, 1) := by decide +kernel
theorem dX11_tryOwners_161 : decode cX11_tryOwners 161 = .ok (.imul, 1) := by decide +kernel
theorem dX11_tryOwners_162 : decode cX11_tryOwners 162 = .ok (.iload 5, 2) := by decide +kernel
theorem dX11_tryOwners_164 : decode cX11_tryOwners 164 = .ok (.iadd, 1) := by decide +kernel
theorem dX11_tryOwners_165 : decode cX11_tryOwners 165 = .ok (.iload 5, 2) := by decide +kernel
theorem dX11_tryOwners_167 : decode cX11_tryOwners 167 = .ok (.iload 4, 2) := by decide +kernel
theorem dX11_tryOwners_169 : decode cX11_tryOwners 169 = .ok (.if_icmp .ne 7, 3) := by decide +kernel
theorem dX11_tryOwners_172 : decode cX11_tryOwners 172 = .ok (.iload_n 3, 1) := by decide +kernel
theorem dX11_tryOwners_173 : decode cX11_tryOwners 173 = .ok (.goto 6, 3) := by decide +kernel
theorem dX11_tryOwners_176 : decode cX11_tryOwners 176 = .ok (.iload_n 3, 1) := by decide +kernel
theorem dX11_tryOwners_177 : decode cX11_tryOwners 177 = .ok (.iconst 1, 1) := by decide +kernel
theorem dX11_tryOwners_178 : decode cX11_tryOwners 178 = .ok (.iadd, 1) := by decide +kernel
theorem dX11_tryOwners_179 : decode cX11_tryOwners 179 = .ok (.invokevirtual 413, 3) := by decide +kernel
theorem dX11_tryOwners_182 : decode cX11_tryOwners 182 = .ok (.iinc 5 1, 3) := by decide +kernel
theorem dX11_tryOwners_185 : decode cX11_tryOwners 185 = .ok (.goto (-50), 3) := by decide +kernel
theorem dX11_tryOwners_188 : decode cX11_tryOwners 188 = .ok (.aload_n 0, 1) := by decide +kernel
theorem dX11_tryOwners_189 : decode cX11_tryOwners 189 = .ok (.getfield 64, 3) := by decide +kernel
theorem dX11_tryOwners_192 : decode cX11_tryOwners 192 = .ok (.iconst 0, 1) := by decide +kernel
theorem dX11_tryOwners_193 : decode cX11_tryOwners 193 = .ok (.iload_n 1, 1) := by decide +kernel
theorem dX11_tryOwners_194 : decode cX11_tryOwners 194 = .ok (.iadd, 1) := by decide +kernel
theorem dX11_tryOwners_195 : decode cX11_tryOwners 195 = .ok (.iload 4, 2) := by decide +kernel
theorem dX11_tryOwners_197 : decode cX11_tryOwners 197 = .ok (.iastore, 1) := by decide +kernel
theorem dX11_tryOwners_198 : decode cX11_tryOwners 198 = .ok (.return_, 1) := by decide +kernel
theorem dX11_arrange_0 : decode cX11_arrange 0 = .ok (.aload_n 0, 1) := by decide +kernel
theorem dX11_arrange_1 : decode cX11_arrange 1 = .ok (.getfield 261, 3) := by decide +kernel
theorem dX11_arrange_4 : decode cX11_arrange 4 = .ok (.ifCond .eq 12, 3) := by decide +kernel
theorem dX11_arrange_7 : decode cX11_arrange 7 = .ok (.iload_n 1, 1) := by decide +kernel
theorem dX11_arrange_8 : decode cX11_arrange 8 = .ok (.iconst 0, 1) := by decide +kernel
theorem dX11_arrange_9 : decode cX11_arrange 9 = .ok (.iconst 1, 1) := by decide +kernel
theorem dX11_arrange_10 : decode cX11_arrange 10 = .ok (.invokestatic 208, 3) := by decide +kernel
theorem dX11_arrange_13 : decode cX11_arrange 13 = .ok (.ifCond .ne 5, 3) := by decide +kernel
theorem dX11_arrange_16 : decode cX11_arrange 16 = .ok (.iconst (-1), 1) := by decide +kernel
theorem dX11_arrange_17 : decode cX11_arrange 17 = .ok (.ireturn, 1) := by decide +kernel
theorem dX11_arrange_18 : decode cX11_arrange 18 = .ok (.aload_n 0, 1) := by decide +kernel
theorem dX11_arrange_19 : decode cX11_arrange 19 = .ok (.iconst (-1), 1) := by decide +kernel
theorem dX11_arrange_20 : decode cX11_arrange 20 = .ok (.putfield 407, 3) := by decide +kernel
theorem dX11_arrange_23 : decode cX11_arrange 23 = .ok (.aload_n 0, 1) := by decide +kernel
theorem dX11_arrange_24 : decode cX11_arrange 24 = .ok (.iconst 0, 1) := by decide +kernel
theorem dX11_arrange_25 : decode cX11_arrange 25 = .ok (.putfield 410, 3) := by decide +kernel
theorem dX11_arrange_28 : decode cX11_arrange 28 = .ok (.aload_n 0, 1) := by decide +kernel
theorem dX11_arrange_29 : decode cX11_arrange 29 = .ok (.iconst 0, 1) := by decide +kernel
theorem dX11_arrange_30 : decode cX11_arrange 30 = .ok (.iconst 0, 1) := by decide +kernel
theorem dX11_arrange_31 : decode cX11_arrange 31 = .ok (.iconst 0, 1) := by decide +kernel
theorem dX11_arrange_32 : decode cX11_arrange 32 = .ok (.invokevirtual 413, 3) := by decide +kernel
theorem dX11_arrange_35 : decode cX11_arrange 35 = .ok (.aload_n 0, 1) := by decide +kernel
theorem dX11_arrange_36 : decode cX11_arrange 36 = .ok (.getfield 407, 3) := by decide +kernel
theorem dX11_arrange_39 : decode cX11_arrange 39 = .ok (.iconst (-1), 1) := by decide +kernel
theorem dX11_arrange_40 : decode cX11_arrange 40 = .ok (.if_icmp .eq 8, 3) := by decide +kernel
theorem dX11_arrange_43 : decode cX11_arrange 43 = .ok (.iload_n 1, 1) := by decide +kernel
theorem dX11_arrange_44 : decode cX11_arrange 44 = .ok (.iconst 1, 1) := by decide +kernel
theorem dX11_arrange_45 : decode cX11_arrange 45 = .ok (.if_icmp .ne 10, 3) := by decide +kernel
theorem dX11_arrange_48 : decode cX11_arrange 48 = .ok (.aload_n 0, 1) := by decide +kernel
theorem dX11_arrange_49 : decode cX11_arrange 49 = .ok (.getfield 407, 3) := by decide +kernel
theorem dX11_arrange_52 : decode cX11_arrange 52 = .ok (.goto 7, 3) := by decide +kernel
theorem dX11_arrange_55 : decode cX11_arrange 55 = .ok (.aload_n 0, 1) := by decide +kernel
theorem dX11_arrange_56 : decode cX11_arrange 56 = .ok (.getfield 410, 3) := by decide +kernel
theorem dX11_arrange_59 : decode cX11_arrange 59 = .ok (.ireturn, 1) := by decide +kernel
theorem dX11_seen_0 : decode cX11_seen 0 = .ok (.aload_n 0, 1) := by decide +kernel
theorem dX11_seen_1 : decode cX11_seen 1 = .ok (.getfield 261, 3) := by decide +kernel
theorem dX11_seen_4 : decode cX11_seen 4 = .ok (.ifCond .eq 26, 3) := by decide +kernel
theorem dX11_seen_7 : decode cX11_seen 7 = .ok (.iload_n 1, 1) := by decide +kernel
theorem dX11_seen_8 : decode cX11_seen 8 = .ok (.invokestatic 401, 3) := by decide +kernel
theorem dX11_seen_11 : decode cX11_seen 11 = .ok (.ifCond .eq 19, 3) := by decide +kernel
theorem dX11_seen_14 : decode cX11_seen 14 = .ok (.iload_n 2, 1) := by decide +kernel
theorem dX11_seen_15 : decode cX11_seen 15 = .ok (.invokestatic 404, 3) := by decide +kernel
theorem dX11_seen_18 : decode cX11_seen 18 = .ok (.ifCond .eq 12, 3) := by decide +kernel
theorem dX11_seen_21 : decode cX11_seen 21 = .ok (.aload_n 0, 1) := by decide +kernel
theorem dX11_seen_22 : decode cX11_seen 22 = .ok (.getfield 270, 3) := by decide +kernel
theorem dX11_seen_25 : decode cX11_seen 25 = .ok (.bipush 10, 2) := by decide +kernel
theorem dX11_seen_27 : decode cX11_seen 27 = .ok (.if_icmp .ne 5, 3) := by decide +kernel
theorem dX11_seen_30 : decode cX11_seen 30 = .ok (.iconst (-1), 1) := by decide +kernel
theorem dX11_seen_31 : decode cX11_seen 31 = .ok (.ireturn, 1) := by decide +kernel
theorem dX11_seen_32 : decode cX11_seen 32 = .ok (.aload_n 0, 1) := by decide +kernel
theorem dX11_seen_33 : decode cX11_seen 33 = .ok (.getfield 77, 3) := by decide +kernel
theorem dX11_seen_36 : decode cX11_seen 36 = .ok (.aload_n 0, 1) := by decide +kernel
theorem dX11_seen_37 : decode cX11_seen 37 = .ok (.getfield 270, 3) := by decide +kernel
theorem dX11_seen_40 : decode cX11_seen 40 = .ok (.iload_n 1, 1) := by decide +kernel
theorem dX11_seen_41 : decode cX11_seen 41 = .ok (.iastore, 1) := by decide +kernel
theorem dX11_seen_42 : decode cX11_seen 42 = .ok (.aload_n 0, 1) := by decide +kernel
theorem dX11_seen_43 : decode cX11_seen 43 = .ok (.getfield 80, 3) := by decide +kernel
theorem dX11_seen_46 : decode cX11_seen 46 = .ok (.aload_n 0, 1) := by decide +kernel
theorem dX11_seen_47 : decode cX11_seen 47 = .ok (.getfield 270, 3) := by decide +kernel
theorem dX11_seen_50 : decode cX11_seen 50 = .ok (.iload_n 2, 1) := by decide +kernel
theorem dX11_seen_51 : decode cX11_seen 51 = .ok (.iastore, 1) := by decide +kernel
theorem dX11_seen_52 : decode cX11_seen 52 = .ok (.aload_n 0, 1) := by decide +kernel
theorem dX11_seen_53 : decode cX11_seen 53 = .ok (.getfield 83, 3) := by decide +kernel
theorem dX11_seen_56 : decode cX11_seen 56 = .ok (.aload_n 0, 1) := by decide +kernel
theorem dX11_seen_57 : decode cX11_seen 57 = .ok (.getfield 270, 3) := by decide +kernel
theorem dX11_seen_60 : decode cX11_seen 60 = .ok (.iload_n 3, 1) := by decide +kernel
theorem dX11_seen_61 : decode cX11_seen 61 = .ok (.bastore, 1) := by decide +kernel
theorem dX11_seen_62 : decode cX11_seen 62 = .ok (.aload_n 0, 1) := by decide +kernel
theorem dX11_seen_63 : decode cX11_seen 63 = .ok (.dup, 1) := by decide +kernel
theorem dX11_seen_64 : decode cX11_seen 64 = .ok (.getfield 270, 3) := by decide +kernel
theorem dX11_seen_67 : decode cX11_seen 67 = .ok (.iconst 1, 1) := by decide +kernel
theorem dX11_seen_68 : decode cX11_seen 68 = .ok (.iadd, 1) := by decide +kernel
theorem dX11_seen_69 : decode cX11_seen 69 = .ok (.putfield 270, 3) := by decide +kernel
theorem dX11_seen_72 : decode cX11_seen 72 = .ok (.aload_n 0, 1) := by decide +kernel
theorem dX11_seen_73 : decode cX11_seen 73 = .ok (.getfield 270, 3) := by decide +kernel
theorem dX11_seen_76 : decode cX11_seen 76 = .ok (.ireturn, 1) := by decide +kernel
theorem dX11_isCase_0 : decode cX11_isCase 0 = .ok (.iload_n 1, 1) := by decide +kernel
theorem dX11_isCase_1 : decode cX11_isCase 1 = .ok (.bipush 10, 2) := by decide +kernel
theorem dX11_isCase_3 : decode cX11_isCase 3 = .ok (.idiv, 1) := by decide +kernel
theorem dX11_isCase_4 : decode cX11_isCase 4 = .ok (.istore_n 2, 1) := by decide +kernel
theorem dX11_isCase_5 : decode cX11_isCase 5 = .ok (.iload_n 1, 1) := by decide +kernel
theorem dX11_isCase_6 : decode cX11_isCase 6 = .ok (.bipush 10, 2) := by decide +kernel
theorem dX11_isCase_8 : decode cX11_isCase 8 = .ok (.irem, 1) := by decide +kernel
theorem dX11_isCase_9 : decode cX11_isCase 9 = .ok (.istore_n 3, 1) := by decide +kernel
theorem dX11_isCase_10 : decode cX11_isCase 10 = .ok (.iload_n 1, 1) := by decide +kernel
theorem dX11_isCase_11 : decode cX11_isCase 11 = .ok (.bipush 99, 2) := by decide +kernel
theorem dX11_isCase_13 : decode cX11_isCase 13 = .ok (.if_icmp .eq 43, 3) := by decide +kernel
theorem dX11_isCase_16 : decode cX11_isCase 16 = .ok (.aload_n 0, 1) := by decide +kernel
theorem dX11_isCase_17 : decode cX11_isCase 17 = .ok (.iload_n 2, 1) := by decide +kernel
theorem dX11_isCase_18 : decode cX11_isCase 18 = .ok (.invokevirtual 328, 3) := by decide +kernel
theorem dX11_isCase_21 : decode cX11_isCase 21 = .ok (.ifCond .eq 39, 3) := by decide +kernel
theorem dX11_isCase_24 : decode cX11_isCase 24 = .ok (.aload_n 0, 1) := by decide +kernel
theorem dX11_isCase_25 : decode cX11_isCase 25 = .ok (.iload_n 3, 1) := by decide +kernel
theorem dX11_isCase_26 : decode cX11_isCase 26 = .ok (.invokevirtual 325, 3) := by decide +kernel
theorem dX11_isCase_29 : decode cX11_isCase 29 = .ok (.ifCond .eq 31, 3) := by decide +kernel
theorem dX11_isCase_32 : decode cX11_isCase 32 = .ok (.aload_n 0, 1) := by decide +kernel
theorem dX11_isCase_33 : decode cX11_isCase 33 = .ok (.getfield 64, 3) := by decide +kernel
theorem dX11_isCase_36 : decode cX11_isCase 36 = .ok (.iconst 0, 1) := by decide +kernel
theorem dX11_isCase_37 : decode cX11_isCase 37 = .ok (.iload_n 2, 1) := by decide +kernel
theorem dX11_isCase_38 : decode cX11_isCase 38 = .ok (.iadd, 1) := by decide +kernel
theorem dX11_isCase_39 : decode cX11_isCase 39 = .ok (.iaload, 1) := by decide +kernel
theorem dX11_isCase_40 : decode cX11_isCase 40 = .ok (.iconst (-1), 1) := by decide +kernel
theorem dX11_isCase_41 : decode cX11_isCase 41 = .ok (.if_icmp .eq 19, 3) := by decide +kernel
theorem dX11_isCase_44 : decode cX11_isCase 44 = .ok (.aload_n 0, 1) := by decide +kernel
theorem dX11_isCase_45 : decode cX11_isCase 45 = .ok (.getfield 64, 3) := by decide +kernel
theorem dX11_isCase_48 : decode cX11_isCase 48 = .ok (.iconst 0, 1) := by decide +kernel
theorem dX11_isCase_49 : decode cX11_isCase 49 = .ok (.iload_n 2, 1) := by decide +kernel
theorem dX11_isCase_50 : decode cX11_isCase 50 = .ok (.iadd, 1) := by decide +kernel
theorem dX11_isCase_51 : decode cX11_isCase 51 = .ok (.iaload, 1) := by decide +kernel
theorem dX11_isCase_52 : decode cX11_isCase 52 = .ok (.iload_n 3, 1) := by decide +kernel
theorem dX11_isCase_53 : decode cX11_isCase 53 = .ok (.if_icmp .eq 7, 3) := by decide +kernel
theorem dX11_isCase_56 : decode cX11_isCase 56 = .ok (.iconst 1, 1) := by decide +kernel
theorem dX11_isCase_57 : decode cX11_isCase 57 = .ok (.goto 4, 3) := by decide +kernel
theorem dX11_isCase_60 : decode cX11_isCase 60 = .ok (.iconst 0, 1) := by decide +kernel
theorem dX11_isCase_61 : decode cX11_isCase 61 = .ok (.ireturn, 1) := by decide +kernel
theorem dX11_layCase_0 : decode cX11_layCase 0 = .ok (.iload_n 1, 1) := by decide +kernel
theorem dX11_layCase_1 : decode cX11_layCase 1 = .ok (.bipush 99, 2) := by decide +kernel
theorem dX11_layCase_3 : decode cX11_layCase 3 = .ok (.if_icmp .ne 5, 3) := by decide +kernel
theorem dX11_layCase_6 : decode cX11_layCase 6 = .ok (.iconst (-1), 1) := by decide +kernel
theorem dX11_layCase_7 : decode cX11_layCase 7 = .ok (.ireturn, 1) := by decide +kernel
theorem dX11_layCase_8 : decode cX11_layCase 8 = .ok (.aload_n 0, 1) := by decide +kernel
theorem dX11_layCase_9 : decode cX11_layCase 9 = .ok (.getfield 64, 3) := by decide +kernel
theorem dX11_layCase_12 : decode cX11_layCase 12 = .ok (.iconst 0, 1) := by decide +kernel
theorem dX11_layCase_13 : decode cX11_layCase 13 = .ok (.iload_n 1, 1) := by decide +kernel
theorem dX11_layCase_14 : decode cX11_layCase 14 = .ok (.bipush 10, 2) := by decide +kernel
theorem dX11_layCase_16 : decode cX11_layCase 16 = .ok (.idiv, 1) := by decide +kernel
theorem dX11_layCase_17 : decode cX11_layCase 17 = .ok (.iadd, 1) := by decide +kernel
theorem dX11_layCase_18 : decode cX11_layCase 18 = .ok (.iaload, 1) := by decide +kernel
theorem dX11_layCase_19 : decode cX11_layCase 19 = .ok (.istore_n 2, 1) := by decide +kernel
theorem dX11_layCase_20 : decode cX11_layCase 20 = .ok (.aload_n 0, 1) := by decide +kernel
theorem dX11_layCase_21 : decode cX11_layCase 21 = .ok (.getfield 64, 3) := by decide +kernel
theorem dX11_layCase_24 : decode cX11_layCase 24 = .ok (.iconst 0, 1) := by decide +kernel
theorem dX11_layCase_25 : decode cX11_layCase 25 = .ok (.iload_n 1, 1) := by decide +kernel
theorem dX11_layCase_26 : decode cX11_layCase 26 = .ok (.bipush 10, 2) := by decide +kernel
theorem dX11_layCase_28 : decode cX11_layCase 28 = .ok (.idiv, 1) := by decide +kernel
theorem dX11_layCase_29 : decode cX11_layCase 29 = .ok (.iadd, 1) := by decide +kernel
theorem dX11_layCase_30 : decode cX11_layCase 30 = .ok (.iload_n 1, 1) := by decide +kernel
theorem dX11_layCase_31 : decode cX11_layCase 31 = .ok (.bipush 10, 2) := by decide +kernel
theorem dX11_layCase_33 : decode cX11_layCase 33 = .ok (.irem, 1) := by decide +kernel
theorem dX11_layCase_34 : decode cX11_layCase 34 = .ok (.iastore, 1) := by decide +kernel
theorem dX11_layCase_35 : decode cX11_layCase 35 = .ok (.iload_n 2, 1) := by decide +kernel
theorem dX11_layCase_36 : decode cX11_layCase 36 = .ok (.ireturn, 1) := by decide +kernel
theorem dX11_takeCase_0 : decode cX11_takeCase 0 = .ok (.iload_n 1, 1) := by decide +kernel
theorem dX11_takeCase_1 : decode cX11_takeCase 1 = .ok (.bipush 99, 2) := by decide +kernel
theorem dX11_takeCase_3 : decode cX11_takeCase 3 = .ok (.if_icmp .eq 15, 3) := by decide +kernel
theorem dX11_takeCase_6 : decode cX11_takeCase 6 = .ok (.aload_n 0, 1) := by decide +kernel
theorem dX11_takeCase_7 : decode cX11_takeCase 7 = .ok (.getfield 64, 3) := by decide +kernel
theorem dX11_takeCase_10 : decode cX11_takeCase 10 = .ok (.iconst 0, 1) := by decide +kernel
theorem dX11_takeCase_11 : decode cX11_takeCase 11 = .ok (.iload_n 1, 1) := by decide +kernel
theorem dX11_takeCase_12 : decode cX11_takeCase 12 = .ok (.bipush 10, 2) := by decide +kernel
theorem dX11_takeCase_14 : decode cX11_takeCase 14 = .ok (.idiv, 1) := by decide +kernel
theorem dX11_takeCase_15 : decode cX11_takeCase 15 = .ok (.iadd, 1) := by decide +kernel
theorem dX11_takeCase_16 : decode cX11_takeCase 16 = .ok (.iload_n 2, 1) := by decide +kernel
theorem dX11_takeCase_17 : decode cX11_takeCase 17 = .ok (.iastore, 1) := by decide +kernel
theorem dX11_takeCase_18 : decode cX11_takeCase 18 = .ok (.return_, 1) := by decide +kernel
theorem dX11_isSo_0 : decode cX11_isSo 0 = .ok (.aload_n 0, 1) := by decide +kernel
theorem dX11_isSo_1 : decode cX11_isSo 1 = .ok (.iload_n 1, 1) := by decide +kernel
theorem dX11_isSo_2 : decode cX11_isSo 2 = .ok (.invokevirtual 417, 3) := by decide +kernel
theorem dX11_isSo_5 : decode cX11_isSo 5 = .ok (.ifCond .ne 5, 3) := by decide +kernel
theorem dX11_isSo_8 : decode cX11_isSo 8 = .ok (.iconst 0, 1) := by decide +kernel
theorem dX11_isSo_9 : decode cX11_isSo 9 = .ok (.ireturn, 1) := by decide +kernel
theorem dX11_isSo_10 : decode cX11_isSo 10 = .ok (.aload_n 0, 1) := by decide +kernel
theorem dX11_isSo_11 : decode cX11_isSo 11 = .ok (.iload_n 1, 1) := by decide +kernel
theorem dX11_isSo_12 : decode cX11_isSo 12 = .ok (.invokevirtual 420, 3) := by decide +kernel
theorem dX11_isSo_15 : decode cX11_isSo 15 = .ok (.istore_n 2, 1) := by decide +kernel
theorem dX11_isSo_16 : decode cX11_isSo 16 = .ok (.iconst 1, 1) := by decide +kernel
theorem dX11_isSo_17 : decode cX11_isSo 17 = .ok (.istore_n 3, 1) := by decide +kernel
theorem dX11_isSo_18 : decode cX11_isSo 18 = .ok (.iconst 0, 1) := by decide +kernel
theorem dX11_isSo_19 : decode cX11_isSo 19 = .ok (.istore 4, 2) := by decide +kernel
theorem dX11_isSo_21 : decode cX11_isSo 21 = .ok (.iload 4, 2) := by decide +kernel
theorem dX11_isSo_23 : decode cX11_isSo 23 = .ok (.aload_n 0, 1) := by decide +kernel
theorem dX11_isSo_24 : decode cX11_isSo 24 = .ok (.getfield 270, 3) := by decide +kernel
theorem dX11_isSo_27 : decode cX11_isSo 27 = .ok (.if_icmp .ge 55, 3) := by decide +kernel
theorem dX11_isSo_30 : decode cX11_isSo 30 = .ok (.iload_n 3, 1) := by decide +kernel
theorem dX11_isSo_31 : decode cX11_isSo 31 = .ok (.ifCond .eq 51, 3) := by decide +kernel
theorem dX11_isSo_34 : decode cX11_isSo 34 = .ok (.aload_n 0, 1) := by decide +kernel
theorem dX11_isSo_35 : decode cX11_isSo 35 = .ok (.aload_n 0, 1) := by decide +kernel
theorem dX11_isSo_36 : decode cX11_isSo 36 = .ok (.getfield 77, 3) := by decide +kernel
theorem dX11_isSo_39 : decode cX11_isSo 39 = .ok (.iload 4, 2) := by decide +kernel
theorem dX11_isSo_41 : decode cX11_isSo 41 = .ok (.iaload, 1) := by decide +kernel
theorem dX11_isSo_42 : decode cX11_isSo 42 = .ok (.invokevirtual 319, 3) := by decide +kernel
theorem dX11_isSo_45 : decode cX11_isSo 45 = .ok (.aload_n 0, 1) := by decide +kernel
theorem dX11_isSo_46 : decode cX11_isSo 46 = .ok (.getfield 80, 3) := by decide +kernel
theorem dX11_isSo_49 : decode cX11_isSo 49 = .ok (.iload 4, 2) := by decide +kernel
theorem dX11_isSo_51 : decode cX11_isSo 51 = .ok (.iaload, 1) := by decide +kernel
theorem dX11_isSo_52 : decode cX11_isSo 52 = .ok (.if_icmp .ne 7, 3) := by decide +kernel
theorem dX11_isSo_55 : decode cX11_isSo 55 = .ok (.iconst 1, 1) := by decide +kernel
theorem dX11_isSo_56 : decode cX11_isSo 56 = .ok (.goto 4, 3) := by decide +kernel
theorem dX11_isSo_59 : decode cX11_isSo 59 = .ok (.iconst 0, 1) := by decide +kernel
theorem dX11_isSo_60 : decode cX11_isSo 60 = .ok (.aload_n 0, 1) := by decide +kernel
theorem dX11_isSo_61 : decode cX11_isSo 61 = .ok (.getfield 83, 3) := by decide +kernel
theorem dX11_isSo_64 : decode cX11_isSo 64 = .ok (.iload 4, 2) := by decide +kernel
theorem dX11_isSo_66 : decode cX11_isSo 66 = .ok (.baload, 1) := by decide +kernel
theorem dX11_isSo_67 : decode cX11_isSo 67 = .ok (.if_icmp .ne 7, 3) := by decide +kernel
theorem dX11_isSo_70 : decode cX11_isSo 70 = .ok (.iconst 1, 1) := by decide +kernel
theorem dX11_isSo_71 : decode cX11_isSo 71 = .ok (.goto 4, 3) := by decide +kernel
theorem dX11_isSo_74 : decode cX11_isSo 74 = .ok (.iconst 0, 1) := by decide +kernel
theorem dX11_isSo_75 : decode cX11_isSo 75 = .ok (.istore_n 3, 1) := by decide +kernel
theorem dX11_isSo_76 : decode cX11_isSo 76 = .ok (.iinc 4 1, 3) := by decide +kernel
theorem dX11_isSo_79 : decode cX11_isSo 79 = .ok (.goto (-58), 3) := by decide +kernel
theorem dX11_isSo_82 : decode cX11_isSo 82 = .ok (.aload_n 0, 1) := by decide +kernel
theorem dX11_isSo_83 : decode cX11_isSo 83 = .ok (.iload_n 1, 1) := by decide +kernel
theorem dX11_isSo_84 : decode cX11_isSo 84 = .ok (.iload_n 2, 1) := by decide +kernel
theorem dX11_isSo_85 : decode cX11_isSo 85 = .ok (.invokevirtual 423, 3) := by decide +kernel
theorem dX11_isSo_88 : decode cX11_isSo 88 = .ok (.iload_n 3, 1) := by decide +kernel
theorem dX11_isSo_89 : decode cX11_isSo 89 = .ok (.ireturn, 1) := by decide +kernel
theorem dX11_who_0 : decode cX11_who 0 = .ok (.aload_n 0, 1) := by decide +kernel
theorem dX11_who_1 : decode cX11_who 1 = .ok (.getfield 261, 3) := by decide +kernel
theorem dX11_who_4 : decode cX11_who 4 = .ok (.ifCond .eq 8, 3) := by decide +kernel
theorem dX11_who_7 : decode cX11_who 7 = .ok (.iload_n 1, 1) := by decide +kernel
theorem dX11_who_8 : decode cX11_who 8 = .ok (.iconst (-1), 1) := by decide +kernel
theorem dX11_who_9 : decode cX11_who 9 = .ok (.if_icmp .ge 5, 3) := by decide +kernel
theorem dX11_who_12 : decode cX11_who 12 = .ok (.iconst (-1), 1) := by decide +kernel
theorem dX11_who_13 : decode cX11_who 13 = .ok (.ireturn, 1) := by decide +kernel
theorem dX11_who_14 : decode cX11_who 14 = .ok (.iconst 0, 1) := by decide +kernel
theorem dX11_who_15 : decode cX11_who 15 = .ok (.istore_n 2, 1) := by decide +kernel
theorem dX11_who_16 : decode cX11_who 16 = .ok (.iconst 0, 1) := by decide +kernel
theorem dX11_who_17 : decode cX11_who 17 = .ok (.istore_n 3, 1) := by decide +kernel
theorem dX11_who_18 : decode cX11_who 18 = .ok (.iload_n 3, 1) := by decide +kernel
theorem dX11_who_19 : decode cX11_who 19 = .ok (.bipush 99, 2) := by decide +kernel
theorem dX11_who_21 : decode cX11_who 21 = .ok (.if_icmp .gt 27, 3) := by decide +kernel
theorem dX11_who_24 : decode cX11_who 24 = .ok (.aload_n 0, 1) := by decide +kernel
theorem dX11_who_25 : decode cX11_who 25 = .ok (.iload_n 3, 1) := by decide +kernel
theorem dX11_who_26 : decode cX11_who 26 = .ok (.invokevirtual 426, 3) := by decide +kernel
theorem dX11_who_29 : decode cX11_who 29 = .ok (.ifCond .eq 13, 3) := by decide +kernel
theorem dX11_who_32 : decode cX11_who 32 = .ok (.iload_n 2, 1) := by decide +kernel
theorem dX11_who_33 : decode cX11_who 33 = .ok (.iload_n 1, 1) := by decide +kernel
theorem dX11_who_34 : decode cX11_who 34 = .ok (.if_icmp .ne 5, 3) := by decide +kernel
theorem dX11_who_37 : decode cX11_who 37 = .ok (.iload_n 3, 1) := by decide +kernel
theorem dX11_who_38 : decode cX11_who 38 = .ok (.ireturn, 1) := by decide +kernel
theorem dX11_who_39 : decode cX11_who 39 = .ok (.iinc 2 1, 3) := by decide +kernel
theorem dX11_who_42 : decode cX11_who 42 = .ok (.iinc 3 1, 3) := by decide +kernel
theorem dX11_who_45 : decode cX11_who 45 = .ok (.goto (-27), 3) := by decide +kernel
theorem dX11_who_48 : decode cX11_who 48 = .ok (.iload_n 1, 1) := by decide +kernel
theorem dX11_who_49 : decode cX11_who 49 = .ok (.iconst (-1), 1) := by decide +kernel
theorem dX11_who_50 : decode cX11_who 50 = .ok (.if_icmp .ne 7, 3) := by decide +kernel
theorem dX11_who_53 : decode cX11_who 53 = .ok (.iload_n 2, 1) := by decide +kernel
theorem dX11_who_54 : decode cX11_who 54 = .ok (.goto 4, 3) := by decide +kernel
theorem dX11_who_57 : decode cX11_who 57 = .ok (.iconst (-1), 1) := by decide +kernel
theorem dX11_who_58 : decode cX11_who 58 = .ok (.ireturn, 1) := by decide +kernel
theorem dX11_best_0 : decode cX11_best 0 = .ok (.aload_n 0, 1) := by decide +kernel
theorem dX11_best_1 : decode cX11_best 1 = .ok (.getfield 261, 3) := by decide +kernel
theorem dX11_best_4 : decode cX11_best 4 = .ok (.ifCond .eq 12, 3) := by decide +kernel
theorem dX11_best_7 : decode cX11_best 7 = .ok (.aload_n 0, 1) := by decide +kernel
theorem dX11_best_8 : decode cX11_best 8 = .ok (.iconst 0, 1) := by decide +kernel
theorem dX11_best_9 : decode cX11_best 9 = .ok (.invokevirtual 429, 3) := by decide +kernel
theorem dX11_best_12 : decode cX11_best 12 = .ok (.iconst (-1), 1) := by decide +kernel
theorem dX11_best_13 : decode cX11_best 13 = .ok (.if_icmp .ne 5, 3) := by decide +kernel
theorem dX11_best_16 : decode cX11_best 16 = .ok (.iconst (-1), 1) := by decide +kernel
theorem dX11_best_17 : decode cX11_best 17 = .ok (.ireturn, 1) := by decide +kernel
theorem dX11_best_18 : decode cX11_best 18 = .ok (.iconst 0, 1) := by decide +kernel
theorem dX11_best_19 : decode cX11_best 19 = .ok (.istore_n 1, 1) := by decide +kernel
theorem dX11_best_20 : decode cX11_best 20 = .ok (.iload_n 1, 1) := by decide +kernel
theorem dX11_best_21 : decode cX11_best 21 = .ok (.aload_n 0, 1) := by decide +kernel
theorem dX11_best_22 : decode cX11_best 22 = .ok (.getfield 87, 3) := by decide +kernel
theorem dX11_best_25 : decode cX11_best 25 = .ok (.arraylength, 1) := by decide +kernel
theorem dX11_best_26 : decode cX11_best 26 = .ok (.if_icmp .ge 16, 3) := by decide +kernel
theorem dX11_best_29 : decode cX11_best 29 = .ok (.aload_n 0, 1) := by decide +kernel
theorem dX11_best_30 : decode cX11_best 30 = .ok (.getfield 87, 3) := by decide +kernel
theorem dX11_best_33 : decode cX11_best 33 = .ok (.iload_n 1, 1) := by decide +kernel
theorem dX11_best_34 : decode cX11_best 34 = .ok (.iconst 0, 1) := by decide +kernel
theorem dX11_best_35 : decode cX11_best 35 = .ok (.iastore, 1) := by decide +kernel
theorem dX11_best_36 : decode cX11_best 36 = .ok (.iinc 1 1, 3) := by decide +kernel
theorem dX11_best_39 : decode cX11_best 39 = .ok (.goto (-19), 3) := by decide +kernel
theorem dX11_best_42 : decode cX11_best 42 = .ok (.iconst 0, 1) := by decide +kernel
theorem dX11_best_43 : decode cX11_best 43 = .ok (.istore_n 1, 1) := by decide +kernel
theorem dX11_best_44 : decode cX11_best 44 = .ok (.iload_n 1, 1) := by decide +kernel
theorem dX11_best_45 : decode cX11_best 45 = .ok (.bipush 99, 2) := by decide +kernel
theorem dX11_best_47 : decode cX11_best 47 = .ok (.if_icmp .gt 64, 3) := by decide +kernel
theorem dX11_best_50 : decode cX11_best 50 = .ok (.aload_n 0, 1) := by decide +kernel
theorem dX11_best_51 : decode cX11_best 51 = .ok (.iload_n 1, 1) := by decide +kernel
theorem dX11_best_52 : decode cX11_best 52 = .ok (.invokevirtual 426, 3) := by decide +kernel
theorem dX11_best_55 : decode cX11_best 55 = .ok (.ifCond .eq 50, 3) := by decide +kernel
theorem dX11_best_58 : decode cX11_best 58 = .ok (.aload_n 0, 1) := by decide +kernel
theorem dX11_best_59 : decode cX11_best 59 = .ok (.iload_n 1, 1) := by decide +kernel
theorem dX11_best_60 : decode cX11_best 60 = .ok (.invokevirtual 420, 3) := by decide +kernel
theorem dX11_best_63 : decode cX11_best 63 = .ok (.istore_n 2, 1) := by decide +kernel
theorem dX11_best_64 : decode cX11_best 64 = .ok (.iconst 0, 1) := by decide +kernel
theorem dX11_best_65 : decode cX11_best 65 = .ok (.istore_n 3, 1) := by decide +kernel
theorem dX11_best_66 : decode cX11_best 66 = .ok (.iload_n 3, 1) := by decide +kernel
theorem dX11_best_67 : decode cX11_best 67 = .ok (.bipush 10, 2) := by decide +kernel
theorem dX11_best_69 : decode cX11_best 69 = .ok (.if_icmp .ge 30, 3) := by decide +kernel
theorem dX11_best_72 : decode cX11_best 72 = .ok (.aload_n 0, 1) := by decide +kernel
theorem dX11_best_73 : decode cX11_best 73 = .ok (.getfield 87, 3) := by decide +kernel
theorem dX11_best_76 : decode cX11_best 76 = .ok (.bipush 7, 2) := by decide +kernel
theorem dX11_best_78 : decode cX11_best 78 = .ok (.iload_n 3, 1) := by decide +kernel
theorem dX11_best_79 : decode cX11_best 79 = .ok (.imul, 1) := by decide +kernel
theorem dX11_best_80 : decode cX11_best 80 = .ok (.aload_n 0, 1) := by decide +kernel
theorem dX11_best_81 : decode cX11_best 81 = .ok (.iload_n 3, 1) := by decide +kernel
theorem dX11_best_82 : decode cX11_best 82 = .ok (.invokevirtual 319, 3) := by decide +kernel
theorem dX11_best_85 : decode cX11_best 85 = .ok (.iadd, 1) := by decide +kernel
theorem dX11_best_86 : decode cX11_best 86 = .ok (.iconst 1, 1) := by decide +kernel
theorem dX11_best_87 : decode cX11_best 87 = .ok (.iadd, 1) := by decide +kernel
theorem dX11_best_88 : decode cX11_best 88 = .ok (.dup2, 1) := by decide +kernel
theorem dX11_best_89 : decode cX11_best 89 = .ok (.iaload, 1) := by decide +kernel
theorem dX11_best_90 : decode cX11_best 90 = .ok (.iconst 1, 1) := by decide +kernel
theorem dX11_best_91 : decode cX11_best 91 = .ok (.iadd, 1) := by decide +kernel
theorem dX11_best_92 : decode cX11_best 92 = .ok (.iastore, 1) := by decide +kernel
theorem dX11_best_93 : decode cX11_best 93 = .ok (.iinc 3 1, 3) := by decide +kernel
theorem dX11_best_96 : decode cX11_best 96 = .ok (.goto (-30), 3) := by decide +kernel
theorem dX11_best_99 : decode cX11_best 99 = .ok (.aload_n 0, 1) := by decide +kernel
theorem dX11_best_100 : decode cX11_best 100 = .ok (.iload_n 1, 1) := by decide +kernel
theorem dX11_best_101 : decode cX11_best 101 = .ok (.iload_n 2, 1) := by decide +kernel
theorem dX11_best_102 : decode cX11_best 102 = .ok (.invokevirtual 423, 3) := by decide +kernel
theorem dX11_best_105 : decode cX11_best 105 = .ok (.iinc 1 1, 3) := by decide +kernel
theorem dX11_best_108 : decode cX11_best 108 = .ok (.goto (-64), 3) := by decide +kernel
theorem dX11_best_111 : decode cX11_best 111 = .ok (.iconst (-1), 1) := by decide +kernel
theorem dX11_best_112 : decode cX11_best 112 = .ok (.istore_n 1, 1) := by decide +kernel
theorem dX11_best_113 : decode cX11_best 113 = .ok (.iconst 0, 1) := by decide +kernel
theorem dX11_best_114 : decode cX11_best 114 = .ok (.istore_n 2, 1) := by decide +kernel
theorem dX11_best_115 : decode cX11_best 115 = .ok (.iconst 0, 1) := by decide +kernel
theorem dX11_best_116 : decode cX11_best 116 = .ok (.istore_n 3, 1) := by decide +kernel
theorem dX11_best_117 : decode cX11_best 117 = .ok (.iload_n 3, 1) := by decide +kernel
theorem dX11_best_118 : decode cX11_best 118 = .ok (.bipush 10, 2) := by decide +kernel
theorem dX11_best_120 : decode cX11_best 120 = .ok (.if_icmp .ge 63, 3) := by decide +kernel
theorem dX11_best_123 : decode cX11_best 123 = .ok (.iconst 0, 1) := by decide +kernel
theorem dX11_best_124 : decode cX11_best 124 = .ok (.istore 4, 2) := by decide +kernel
theorem dX11_best_126 : decode cX11_best 126 = .ok (.iconst 0, 1) := by decide +kernel
theorem dX11_best_127 : decode cX11_best 127 = .ok (.istore 5, 2) := by decide +kernel
theorem dX11_best_129 : decode cX11_best 129 = .ok (.iload 5, 2) := by decide +kernel
theorem dX11_best_131 : decode cX11_best 131 = .ok (.bipush 6, 2) := by decide +kernel
theorem dX11_best_133 : decode cX11_best 133 = .ok (.if_icmp .gt 28, 3) := by decide +kernel
theorem dX11_best_136 : decode cX11_best 136 = .ok (.iload 4, 2) := by decide +kernel
theorem dX11_best_138 : decode cX11_best 138 = .ok (.aload_n 0, 1) := by decide +kernel
theorem dX11_best_139 : decode cX11_best 139 = .ok (.getfield 87, 3) := by decide +kernel
theorem dX11_best_142 : decode cX11_best 142 = .ok (.bipush 7, 2) := by decide +kernel
theorem dX11_best_144 : decode cX11_best 144 = .ok (.iload_n 3, 1) := by decide +kernel
theorem dX11_best_145 : decode cX11_best 145 = .ok (.imul, 1) := by decide +kernel
theorem dX11_best_146 : decode cX11_best 146 = .ok (.iload 5, 2) := by decide +kernel
theorem dX11_best_148 : decode cX11_best 148 = .ok (.iadd, 1) := by decide +kernel
theorem dX11_best_149 : decode cX11_best 149 = .ok (.iaload, 1) := by decide +kernel
theorem dX11_best_150 : decode cX11_best 150 = .ok (.invokestatic 299, 3) := by decide +kernel
theorem dX11_best_153 : decode cX11_best 153 = .ok (.istore 4, 2) := by decide +kernel
theorem dX11_best_155 : decode cX11_best 155 = .ok (.iinc 5 1, 3) := by decide +kernel
theorem dX11_best_158 : decode cX11_best 158 = .ok (.goto (-29), 3) := by decide +kernel
theorem dX11_best_161 : decode cX11_best 161 = .ok (.iload_n 1, 1) := by decide +kernel
theorem dX11_best_162 : decode cX11_best 162 = .ok (.iconst (-1), 1) := by decide +kernel
theorem dX11_best_163 : decode cX11_best 163 = .ok (.if_icmp .eq 9, 3) := by decide +kernel
theorem dX11_best_166 : decode cX11_best 166 = .ok (.iload 4, 2) := by decide +kernel
theorem dX11_best_168 : decode cX11_best 168 = .ok (.iload_n 2, 1) := by decide +kernel
theorem dX11_best_169 : decode cX11_best 169 = .ok (.if_icmp .ge 8, 3) := by decide +kernel
theorem dX11_best_172 : decode cX11_best 172 = .ok (.iload_n 3, 1) := by decide +kernel
theorem dX11_best_173 : decode cX11_best 173 = .ok (.istore_n 1, 1) := by decide +kernel
theorem dX11_best_174 : decode cX11_best 174 = .ok (.iload 4, 2) := by decide +kernel
theorem dX11_best_176 : decode cX11_best 176 = .ok (.istore_n 2, 1) := by decide +kernel
theorem dX11_best_177 : decode cX11_best 177 = .ok (.iinc 3 1, 3) := by decide +kernel
theorem dX11_best_180 : decode cX11_best 180 = .ok (.goto (-63), 3) := by decide +kernel
theorem dX11_best_183 : decode cX11_best 183 = .ok (.iload_n 1, 1) := by decide +kernel
theorem dX11_best_184 : decode cX11_best 184 = .ok (.ireturn, 1) := by decide +kernel
theorem dX11_gameOf_0 : decode cX11_gameOf 0 = .ok (.aload_n 0, 1) := by decide +kernel
theorem dX11_gameOf_1 : decode cX11_gameOf 1 = .ok (.iload_n 1, 1) := by decide +kernel
theorem dX11_gameOf_2 : decode cX11_gameOf 2 = .ok (.iload_n 2, 1) := by decide +kernel
theorem dX11_gameOf_3 : decode cX11_gameOf 3 = .ok (.invokevirtual 344, 3) := by decide +kernel
theorem dX11_gameOf_6 : decode cX11_gameOf 6 = .ok (.istore 5, 2) := by decide +kernel
theorem dX11_gameOf_8 : decode cX11_gameOf 8 = .ok (.aload_n 0, 1) := by decide +kernel
theorem dX11_gameOf_9 : decode cX11_gameOf 9 = .ok (.iload 5, 2) := by decide +kernel
theorem dX11_gameOf_11 : decode cX11_gameOf 11 = .ok (.aload_n 0, 1) := by decide +kernel
theorem dX11_gameOf_12 : decode cX11_gameOf 12 = .ok (.iload_n 3, 1) := by decide +kernel
theorem dX11_gameOf_13 : decode cX11_gameOf 13 = .ok (.iload 4, 2) := by decide +kernel
theorem dX11_gameOf_15 : decode cX11_gameOf 15 = .ok (.invokevirtual 344, 3) := by decide +kernel
theorem dX11_gameOf_18 : decode cX11_gameOf 18 = .ok (.invokevirtual 347, 3) := by decide +kernel
theorem dX11_gameOf_21 : decode cX11_gameOf 21 = .ok (.istore 6, 2) := by decide +kernel
theorem dX11_gameOf_23 : decode cX11_gameOf 23 = .ok (.aload_n 0, 1) := by decide +kernel
theorem dX11_gameOf_24 : decode cX11_gameOf 24 = .ok (.iload 5, 2) := by decide +kernel
theorem dX11_gameOf_26 : decode cX11_gameOf 26 = .ok (.invokevirtual 304, 3) := by decide +kernel
theorem dX11_gameOf_29 : decode cX11_gameOf 29 = .ok (.ifCond .ne 9, 3) := by decide +kernel
theorem dX11_gameOf_32 : decode cX11_gameOf 32 = .ok (.iload 6, 2) := by decide +kernel
theorem dX11_gameOf_34 : decode cX11_gameOf 34 = .ok (.iconst 2, 1) := by decide +kernel
theorem dX11_gameOf_35 : decode cX11_gameOf 35 = .ok (.if_icmp .ne 13, 3) := by decide +kernel
theorem dX11_gameOf_38 : decode cX11_gameOf 38 = .ok (.aload_n 0, 1) := by decide +kernel
theorem dX11_gameOf_39 : decode cX11_gameOf 39 = .ok (.iload_n 1, 1) := by decide +kernel
theorem dX11_gameOf_40 : decode cX11_gameOf 40 = .ok (.iconst 2, 1) := by decide +kernel
theorem dX11_gameOf_41 : decode cX11_gameOf 41 = .ok (.invokevirtual 267, 3) := by decide +kernel
theorem dX11_gameOf_44 : decode cX11_gameOf 44 = .ok (.ineg, 1) := by decide +kernel
theorem dX11_gameOf_45 : decode cX11_gameOf 45 = .ok (.goto 19, 3) := by decide +kernel
theorem dX11_gameOf_48 : decode cX11_gameOf 48 = .ok (.iload 6, 2) := by decide +kernel
theorem dX11_gameOf_50 : decode cX11_gameOf 50 = .ok (.iconst 1, 1) := by decide +kernel
theorem dX11_gameOf_51 : decode cX11_gameOf 51 = .ok (.if_icmp .ne 12, 3) := by decide +kernel
theorem dX11_gameOf_54 : decode cX11_gameOf 54 = .ok (.aload_n 0, 1) := by decide +kernel
theorem dX11_gameOf_55 : decode cX11_gameOf 55 = .ok (.iload_n 3, 1) := by decide +kernel
theorem dX11_gameOf_56 : decode cX11_gameOf 56 = .ok (.iconst 2, 1) := by decide +kernel
theorem dX11_gameOf_57 : decode cX11_gameOf 57 = .ok (.invokevirtual 267, 3) := by decide +kernel
theorem dX11_gameOf_60 : decode cX11_gameOf 60 = .ok (.goto 4, 3) := by decide +kernel
theorem dX11_gameOf_63 : decode cX11_gameOf 63 = .ok (.iconst 0, 1) := by decide +kernel
theorem dX11_gameOf_64 : decode cX11_gameOf 64 = .ok (.ireturn, 1) := by decide +kernel
theorem dX11_game_0 : decode cX11_game 0 = .ok (.aload_n 0, 1) := by decide +kernel
theorem dX11_game_1 : decode cX11_game 1 = .ok (.iload_n 1, 1) := by decide +kernel
theorem dX11_game_2 : decode cX11_game 2 = .ok (.iload_n 2, 1) := by decide +kernel
theorem dX11_game_3 : decode cX11_game 3 = .ok (.iload_n 3, 1) := by decide +kernel
theorem dX11_game_4 : decode cX11_game 4 = .ok (.iload 4, 2) := by decide +kernel
theorem dX11_game_6 : decode cX11_game 6 = .ok (.invokevirtual 350, 3) := by decide +kernel
theorem dX11_game_9 : decode cX11_game 9 = .ok (.iconst (-1), 1) := by decide +kernel
theorem dX11_game_10 : decode cX11_game 10 = .ok (.if_icmp .ne 13, 3) := by decide +kernel
theorem dX11_game_13 : decode cX11_game 13 = .ok (.iload 5, 2) := by decide +kernel
theorem dX11_game_15 : decode cX11_game 15 = .ok (.iconst 0, 1) := by decide +kernel
theorem dX11_game_16 : decode cX11_game 16 = .ok (.iconst 1, 1) := by decide +kernel
theorem dX11_game_17 : decode cX11_game 17 = .ok (.invokestatic 208, 3) := by decide +kernel
theorem dX11_game_20 : decode cX11_game 20 = .ok (.ifCond .ne 7, 3) := by decide +kernel
theorem dX11_game_23 : decode cX11_game 23 = .ok (.ldc_w 331, 3) := by decide +kernel
theorem dX11_game_26 : decode cX11_game 26 = .ok (.ireturn, 1) := by decide +kernel
theorem dX11_game_27 : decode cX11_game 27 = .ok (.iload 5, 2) := by decide +kernel
theorem dX11_game_29 : decode cX11_game 29 = .ok (.ifCond .ne 15, 3) := by decide +kernel
theorem dX11_game_32 : decode cX11_game 32 = .ok (.aload_n 0, 1) := by decide +kernel
theorem dX11_game_33 : decode cX11_game 33 = .ok (.iload_n 1, 1) := by decide +kernel
theorem dX11_game_34 : decode cX11_game 34 = .ok (.iload_n 2, 1) := by decide +kernel
theorem dX11_game_35 : decode cX11_game 35 = .ok (.iload_n 3, 1) := by decide +kernel
theorem dX11_game_36 : decode cX11_game 36 = .ok (.iload 4, 2) := by decide +kernel
theorem dX11_game_38 : decode cX11_game 38 = .ok (.invokevirtual 432, 3) := by decide +kernel
theorem dX11_game_41 : decode cX11_game 41 = .ok (.goto 12, 3) := by decide +kernel
theorem dX11_game_44 : decode cX11_game 44 = .ok (.aload_n 0, 1) := by decide +kernel
theorem dX11_game_45 : decode cX11_game 45 = .ok (.iload_n 3, 1) := by decide +kernel
theorem dX11_game_46 : decode cX11_game 46 = .ok (.iload 4, 2) := by decide +kernel
theorem dX11_game_48 : decode cX11_game 48 = .ok (.iload_n 1, 1) := by decide +kernel
theorem dX11_game_49 : decode cX11_game 49 = .ok (.iload_n 2, 1) := by decide +kernel
theorem dX11_game_50 : decode cX11_game 50 = .ok (.invokevirtual 432, 3) := by decide +kernel
theorem dX11_game_53 : decode cX11_game 53 = .ok (.ireturn, 1) := by decide +kernel
theorem dX11_isRest_0 : decode cX11_isRest 0 = .ok (.iconst 1, 1) := by decide +kernel
theorem dX11_isRest_1 : decode cX11_isRest 1 = .ok (.istore 5, 2) := by decide +kernel
theorem dX11_isRest_3 : decode cX11_isRest 3 = .ok (.iload 5, 2) := by decide +kernel
theorem dX11_isRest_5 : decode cX11_isRest 5 = .ok (.bipush 9, 2) := by decide +kernel
theorem dX11_isRest_7 : decode cX11_isRest 7 = .ok (.if_icmp .gt 54, 3) := by decide +kernel
theorem dX11_isRest_10 : decode cX11_isRest 10 = .ok (.aload_n 0, 1) := by decide +kernel
theorem dX11_isRest_11 : decode cX11_isRest 11 = .ok (.iload_n 1, 1) := by decide +kernel
theorem dX11_isRest_12 : decode cX11_isRest 12 = .ok (.iload 5, 2) := by decide +kernel
theorem dX11_isRest_14 : decode cX11_isRest 14 = .ok (.iload_n 3, 1) := by decide +kernel
theorem dX11_isRest_15 : decode cX11_isRest 15 = .ok (.iload 4, 2) := by decide +kernel
theorem dX11_isRest_17 : decode cX11_isRest 17 = .ok (.invokevirtual 432, 3) := by decide +kernel
theorem dX11_isRest_20 : decode cX11_isRest 20 = .ok (.aload_n 0, 1) := by decide +kernel
theorem dX11_isRest_21 : decode cX11_isRest 21 = .ok (.iload_n 1, 1) := by decide +kernel
theorem dX11_isRest_22 : decode cX11_isRest 22 = .ok (.iload_n 2, 1) := by decide +kernel
theorem dX11_isRest_23 : decode cX11_isRest 23 = .ok (.iload_n 3, 1) := by decide +kernel
theorem dX11_isRest_24 : decode cX11_isRest 24 = .ok (.iload 4, 2) := by decide +kernel
theorem dX11_isRest_26 : decode cX11_isRest 26 = .ok (.invokevirtual 432, 3) := by decide +kernel
theorem dX11_isRest_29 : decode cX11_isRest 29 = .ok (.if_icmp .gt 24, 3) := by decide +kernel
theorem dX11_isRest_32 : decode cX11_isRest 32 = .ok (.aload_n 0, 1) := by decide +kernel
theorem dX11_isRest_33 : decode cX11_isRest 33 = .ok (.iload_n 3, 1) := by decide +kernel
theorem dX11_isRest_34 : decode cX11_isRest 34 = .ok (.iload 5, 2) := by decide +kernel
theorem dX11_isRest_36 : decode cX11_isRest 36 = .ok (.iload_n 1, 1) := by decide +kernel
theorem dX11_isRest_37 : decode cX11_isRest 37 = .ok (.iload_n 2, 1) := by decide +kernel
theorem dX11_isRest_38 : decode cX11_isRest 38 = .ok (.invokevirtual 432, 3) := by decide +kernel
theorem dX11_isRest_41 : decode cX11_isRest 41 = .ok (.aload_n 0, 1) := by decide +kernel
theorem dX11_isRest_42 : decode cX11_isRest 42 = .ok (.iload_n 3, 1) := by decide +kernel
theorem dX11_isRest_43 : decode cX11_isRest 43 = .ok (.iload 4, 2) := by decide +kernel
theorem dX11_isRest_45 : decode cX11_isRest 45 = .ok (.iload_n 1, 1) := by decide +kernel
theorem dX11_isRest_46 : decode cX11_isRest 46 = .ok (.iload_n 2, 1) := by decide +kernel
theorem dX11_isRest_47 : decode cX11_isRest 47 = .ok (.invokevirtual 432, 3) := by decide +kernel
theorem dX11_isRest_50 : decode cX11_isRest 50 = .ok (.if_icmp .le 5, 3) := by decide +kernel
theorem dX11_isRest_53 : decode cX11_isRest 53 = .ok (.iconst 0, 1) := by decide +kernel
theorem dX11_isRest_54 : decode cX11_isRest 54 = .ok (.ireturn, 1) := by decide +kernel
theorem dX11_isRest_55 : decode cX11_isRest 55 = .ok (.iinc 5 1, 3) := by decide +kernel
theorem dX11_isRest_58 : decode cX11_isRest 58 = .ok (.goto (-55), 3) := by decide +kernel
theorem dX11_isRest_61 : decode cX11_isRest 61 = .ok (.iconst 1, 1) := by decide +kernel
theorem dX11_isRest_62 : decode cX11_isRest 62 = .ok (.ireturn, 1) := by decide +kernel
theorem dX11_rests_0 : decode cX11_rests 0 = .ok (.aload_n 0, 1) := by decide +kernel
theorem dX11_rests_1 : decode cX11_rests 1 = .ok (.iload_n 1, 1) := by decide +kernel
theorem dX11_rests_2 : decode cX11_rests 2 = .ok (.iload_n 2, 1) := by decide +kernel
theorem dX11_rests_3 : decode cX11_rests 3 = .ok (.invokevirtual 335, 3) := by decide +kernel
theorem dX11_rests_6 : decode cX11_rests 6 = .ok (.iconst (-1), 1) := by decide +kernel
theorem dX11_rests_7 : decode cX11_rests 7 = .ok (.if_icmp .ne 8, 3) := by decide +kernel
theorem dX11_rests_10 : decode cX11_rests 10 = .ok (.iload_n 3, 1) := by decide +kernel
theorem dX11_rests_11 : decode cX11_rests 11 = .ok (.iconst (-1), 1) := by decide +kernel
theorem dX11_rests_12 : decode cX11_rests 12 = .ok (.if_icmp .ge 5, 3) := by decide +kernel
theorem dX11_rests_15 : decode cX11_rests 15 = .ok (.iconst (-1), 1) := by decide +kernel
theorem dX11_rests_16 : decode cX11_rests 16 = .ok (.ireturn, 1) := by decide +kernel
theorem dX11_rests_17 : decode cX11_rests 17 = .ok (.iconst 0, 1) := by decide +kernel
theorem dX11_rests_18 : decode cX11_rests 18 = .ok (.istore 4, 2) := by decide +kernel
theorem dX11_rests_20 : decode cX11_rests 20 = .ok (.iconst 1, 1) := by decide +kernel
theorem dX11_rests_21 : decode cX11_rests 21 = .ok (.istore 5, 2) := by decide +kernel
theorem dX11_rests_23 : decode cX11_rests 23 = .ok (.iload 5, 2) := by decide +kernel
theorem dX11_rests_25 : decode cX11_rests 25 = .ok (.bipush 9, 2) := by decide +kernel
theorem dX11_rests_27 : decode cX11_rests 27 = .ok (.if_icmp .gt 56, 3) := by decide +kernel
theorem dX11_rests_30 : decode cX11_rests 30 = .ok (.iconst 1, 1) := by decide +kernel
theorem dX11_rests_31 : decode cX11_rests 31 = .ok (.istore 6, 2) := by decide +kernel
theorem dX11_rests_33 : decode cX11_rests 33 = .ok (.iload 6, 2) := by decide +kernel
theorem dX11_rests_35 : decode cX11_rests 35 = .ok (.bipush 9, 2) := by decide +kernel
theorem dX11_rests_37 : decode cX11_rests 37 = .ok (.if_icmp .gt 40, 3) := by decide +kernel
theorem dX11_rests_40 : decode cX11_rests 40 = .ok (.aload_n 0, 1) := by decide +kernel
theorem dX11_rests_41 : decode cX11_rests 41 = .ok (.iload_n 1, 1) := by decide +kernel
theorem dX11_rests_42 : decode cX11_rests 42 = .ok (.iload 5, 2) := by decide +kernel
theorem dX11_rests_44 : decode cX11_rests 44 = .ok (.iload_n 2, 1) := by decide +kernel
theorem dX11_rests_45 : decode cX11_rests 45 = .ok (.iload 6, 2) := by decide +kernel
theorem dX11_rests_47 : decode cX11_rests 47 = .ok (.invokevirtual 435, 3) := by decide +kernel
theorem dX11_rests_50 : decode cX11_rests 50 = .ok (.ifCond .eq 21, 3) := by decide +kernel
theorem dX11_rests_53 : decode cX11_rests 53 = .ok (.iload 4, 2) := by decide +kernel
theorem dX11_rests_55 : decode cX11_rests 55 = .ok (.iload_n 3, 1) := by decide +kernel
theorem dX11_rests_56 : decode cX11_rests 56 = .ok (.if_icmp .ne 12, 3) := by decide +kernel
theorem dX11_rests_59 : decode cX11_rests 59 = .ok (.bipush 10, 2) := by decide +kernel
theorem dX11_rests_61 : decode cX11_rests 61 = .ok (.iload 5, 2) := by decide +kernel
theorem dX11_rests_63 : decode cX11_rests 63 = .ok (.imul, 1) := by decide +kernel
theorem dX11_rests_64 : decode cX11_rests 64 = .ok (.iload 6, 2) := by decide +kernel
theorem dX11_rests_66 : decode cX11_rests 66 = .ok (.iadd, 1) := by decide +kernel
theorem dX11_rests_67 : decode cX11_rests 67 = .ok (.ireturn, 1) := by decide +kernel
theorem dX11_rests_68 : decode cX11_rests 68 = .ok (.iinc 4 1, 3) := by decide +kernel
theorem dX11_rests_71 : decode cX11_rests 71 = .ok (.iinc 6 1, 3) := by decide +kernel
theorem dX11_rests_74 : decode cX11_rests 74 = .ok (.goto (-41), 3) := by decide +kernel
theorem dX11_rests_77 : decode cX11_rests 77 = .ok (.iinc 5 1, 3) := by decide +kernel
theorem dX11_rests_80 : decode cX11_rests 80 = .ok (.goto (-57), 3) := by decide +kernel
theorem dX11_rests_83 : decode cX11_rests 83 = .ok (.iload_n 3, 1) := by decide +kernel
theorem dX11_rests_84 : decode cX11_rests 84 = .ok (.iconst (-1), 1) := by decide +kernel
theorem dX11_rests_85 : decode cX11_rests 85 = .ok (.if_icmp .ne 8, 3) := by decide +kernel
theorem dX11_rests_88 : decode cX11_rests 88 = .ok (.iload 4, 2) := by decide +kernel
theorem dX11_rests_90 : decode cX11_rests 90 = .ok (.goto 4, 3) := by decide +kernel
theorem dX11_rests_93 : decode cX11_rests 93 = .ok (.iconst (-1), 1) := by decide +kernel
theorem dX11_rests_94 : decode cX11_rests 94 = .ok (.ireturn, 1) := by decide +kernel
theorem dX11_corner_0 : decode cX11_corner 0 = .ok (.iconst (-1), 1) := by decide +kernel
theorem dX11_corner_1 : decode cX11_corner 1 = .ok (.istore_n 2, 1) := by decide +kernel
theorem dX11_corner_2 : decode cX11_corner 2 = .ok (.iload_n 1, 1) := by decide +kernel
theorem dX11_corner_3 : decode cX11_corner 3 = .ok (.invokestatic 404, 3) := by decide +kernel
theorem dX11_corner_6 : decode cX11_corner 6 = .ok (.istore_n 3, 1) := by decide +kernel
theorem dX11_corner_7 : decode cX11_corner 7 = .ok (.iconst 0, 1) := by decide +kernel
theorem dX11_corner_8 : decode cX11_corner 8 = .ok (.istore 4, 2) := by decide +kernel
theorem dX11_corner_10 : decode cX11_corner 10 = .ok (.iload 4, 2) := by decide +kernel
theorem dX11_corner_12 : decode cX11_corner 12 = .ok (.aload_n 0, 1) := by decide +kernel
theorem dX11_corner_13 : decode cX11_corner 13 = .ok (.getfield 261, 3) := by decide +kernel
theorem dX11_corner_16 : decode cX11_corner 16 = .ok (.if_icmp .ge 71, 3) := by decide +kernel
theorem dX11_corner_19 : decode cX11_corner 19 = .ok (.iload_n 3, 1) := by decide +kernel
theorem dX11_corner_20 : decode cX11_corner 20 = .ok (.ifCond .eq 67, 3) := by decide +kernel
theorem dX11_corner_23 : decode cX11_corner 23 = .ok (.aload_n 0, 1) := by decide +kernel
theorem dX11_corner_24 : decode cX11_corner 24 = .ok (.iload 4, 2) := by decide +kernel
theorem dX11_corner_26 : decode cX11_corner 26 = .ok (.iconst 1, 1) := by decide +kernel
theorem dX11_corner_27 : decode cX11_corner 27 = .ok (.invokevirtual 267, 3) := by decide +kernel
theorem dX11_corner_30 : decode cX11_corner 30 = .ok (.iload_n 1, 1) := by decide +kernel
theorem dX11_corner_31 : decode cX11_corner 31 = .ok (.if_icmp .ne 50, 3) := by decide +kernel
theorem dX11_corner_34 : decode cX11_corner 34 = .ok (.aload_n 0, 1) := by decide +kernel
theorem dX11_corner_35 : decode cX11_corner 35 = .ok (.getfield 64, 3) := by decide +kernel
theorem dX11_corner_38 : decode cX11_corner 38 = .ok (.iconst 0, 1) := by decide +kernel
theorem dX11_corner_39 : decode cX11_corner 39 = .ok (.iload 4, 2) := by decide +kernel
theorem dX11_corner_41 : decode cX11_corner 41 = .ok (.iadd, 1) := by decide +kernel
theorem dX11_corner_42 : decode cX11_corner 42 = .ok (.iaload, 1) := by decide +kernel
theorem dX11_corner_43 : decode cX11_corner 43 = .ok (.iconst (-1), 1) := by decide +kernel
theorem dX11_corner_44 : decode cX11_corner 44 = .ok (.if_icmp .eq 37, 3) := by decide +kernel
theorem dX11_corner_47 : decode cX11_corner 47 = .ok (.iload_n 2, 1) := by decide +kernel
theorem dX11_corner_48 : decode cX11_corner 48 = .ok (.iconst (-1), 1) := by decide +kernel
theorem dX11_corner_49 : decode cX11_corner 49 = .ok (.if_icmp .eq 16, 3) := by decide +kernel
theorem dX11_corner_52 : decode cX11_corner 52 = .ok (.iload_n 2, 1) := by decide +kernel
theorem dX11_corner_53 : decode cX11_corner 53 = .ok (.aload_n 0, 1) := by decide +kernel
theorem dX11_corner_54 : decode cX11_corner 54 = .ok (.getfield 64, 3) := by decide +kernel
theorem dX11_corner_57 : decode cX11_corner 57 = .ok (.iconst 0, 1) := by decide +kernel
theorem dX11_corner_58 : decode cX11_corner 58 = .ok (.iload 4, 2) := by decide +kernel
theorem dX11_corner_60 : decode cX11_corner 60 = .ok (.iadd, 1) := by decide +kernel
theorem dX11_corner_61 : decode cX11_corner 61 = .ok (.iaload, 1) := by decide +kernel
theorem dX11_corner_62 : decode cX11_corner 62 = .ok (.if_icmp .ne 7, 3) := by decide +kernel
theorem dX11_corner_65 : decode cX11_corner 65 = .ok (.iconst 1, 1) := by decide +kernel
theorem dX11_corner_66 : decode cX11_corner 66 = .ok (.goto 4, 3) := by decide +kernel
theorem dX11_corner_69 : decode cX11_corner 69 = .ok (.iconst 0, 1) := by decide +kernel
theorem dX11_corner_70 : decode cX11_corner 70 = .ok (.istore_n 3, 1) := by decide +kernel
theorem dX11_corner_71 : decode cX11_corner 71 = .ok (.aload_n 0, 1) := by decide +kernel
theorem dX11_corner_72 : decode cX11_corner 72 = .ok (.getfield 64, 3) := by decide +kernel
theorem dX11_corner_75 : decode cX11_corner 75 = .ok (.iconst 0, 1) := by decide +kernel
theorem dX11_corner_76 : decode cX11_corner 76 = .ok (.iload 4, 2) := by decide +kernel
theorem dX11_corner_78 : decode cX11_corner 78 = .ok (.iadd, 1) := by decide +kernel
theorem dX11_corner_79 : decode cX11_corner 79 = .ok (.iaload, 1) := by decide +kernel
theorem dX11_corner_80 : decode cX11_corner 80 = .ok (.istore_n 2, 1) := by decide +kernel
theorem dX11_corner_81 : decode cX11_corner 81 = .ok (.iinc 4 1, 3) := by decide +kernel
theorem dX11_corner_84 : decode cX11_corner 84 = .ok (.goto (-74), 3) := by decide +kernel
theorem dX11_corner_87 : decode cX11_corner 87 = .ok (.iload_n 3, 1) := by decide +kernel
theorem dX11_corner_88 : decode cX11_corner 88 = .ok (.ifCond .eq 7, 3) := by decide +kernel
theorem dX11_corner_91 : decode cX11_corner 91 = .ok (.iload_n 2, 1) := by decide +kernel
theorem dX11_corner_92 : decode cX11_corner 92 = .ok (.goto 4, 3) := by decide +kernel
theorem dX11_corner_95 : decode cX11_corner 95 = .ok (.iconst (-1), 1) := by decide +kernel
theorem dX11_corner_96 : decode cX11_corner 96 = .ok (.ireturn, 1) := by decide +kernel
theorem dX11_likingOf_0 : decode cX11_likingOf 0 = .ok (.iconst 0, 1) := by decide +kernel
theorem dX11_likingOf_1 : decode cX11_likingOf 1 = .ok (.istore_n 3, 1) := by decide +kernel
theorem dX11_likingOf_2 : decode cX11_likingOf 2 = .ok (.iconst 0, 1) := by decide +kernel
theorem dX11_likingOf_3 : decode cX11_likingOf 3 = .ok (.istore 4, 2) := by decide +kernel
theorem dX11_likingOf_5 : decode cX11_likingOf 5 = .ok (.iload 4, 2) := by decide +kernel
theorem dX11_likingOf_7 : decode cX11_likingOf 7 = .ok (.aload_n 0, 1) := by decide +kernel
theorem dX11_likingOf_8 : decode cX11_likingOf 8 = .ok (.getfield 264, 3) := by decide +kernel
theorem dX11_likingOf_11 : decode cX11_likingOf 11 = .ok (.if_icmp .ge 51, 3) := by decide +kernel
theorem dX11_likingOf_14 : decode cX11_likingOf 14 = .ok (.aload_n 0, 1) := by decide +kernel
theorem dX11_likingOf_15 : decode cX11_likingOf 15 = .ok (.iload 4, 2) := by decide +kernel
theorem dX11_likingOf_17 : decode cX11_likingOf 17 = .ok (.iconst 0, 1) := by decide +kernel
theorem dX11_likingOf_18 : decode cX11_likingOf 18 = .ok (.invokevirtual 316, 3) := by decide +kernel
theorem dX11_likingOf_21 : decode cX11_likingOf 21 = .ok (.aload_n 0, 1) := by decide +kernel
theorem dX11_likingOf_22 : decode cX11_likingOf 22 = .ok (.getfield 55, 3) := by decide +kernel
theorem dX11_likingOf_25 : decode cX11_likingOf 25 = .ok (.iconst 2, 1) := by decide +kernel
theorem dX11_likingOf_26 : decode cX11_likingOf 26 = .ok (.iload_n 1, 1) := by decide +kernel
theorem dX11_likingOf_27 : decode cX11_likingOf 27 = .ok (.imul, 1) := by decide +kernel
theorem dX11_likingOf_28 : decode cX11_likingOf 28 = .ok (.iconst 1, 1) := by decide +kernel
theorem dX11_likingOf_29 : decode cX11_likingOf 29 = .ok (.iadd, 1) := by decide +kernel
theorem dX11_likingOf_30 : decode cX11_likingOf 30 = .ok (.iaload, 1) := by decide +kernel
theorem dX11_likingOf_31 : decode cX11_likingOf 31 = .ok (.if_icmp .ne 23, 3) := by decide +kernel
theorem dX11_likingOf_34 : decode cX11_likingOf 34 = .ok (.aload_n 0, 1) := by decide +kernel
theorem dX11_likingOf_35 : decode cX11_likingOf 35 = .ok (.iload 4, 2) := by decide +kernel
theorem dX11_likingOf_37 : decode cX11_likingOf 37 = .ok (.iconst 1, 1) := by decide +kernel
theorem dX11_likingOf_38 : decode cX11_likingOf 38 = .ok (.invokevirtual 316, 3) := by decide +kernel
theorem dX11_likingOf_41 : decode cX11_likingOf 41 = .ok (.aload_n 0, 1) := by decide +kernel
theorem dX11_likingOf_42 : decode cX11_likingOf 42 = .ok (.iload_n 2, 1) := by decide +kernel
theorem dX11_likingOf_43 : decode cX11_likingOf 43 = .ok (.iconst 1, 1) := by decide +kernel
theorem dX11_likingOf_44 : decode cX11_likingOf 44 = .ok (.invokevirtual 267, 3) := by decide +kernel
theorem dX11_likingOf_47 : decode cX11_likingOf 47 = .ok (.if_icmp .ne 7, 3) := by decide +kernel
theorem dX11_likingOf_50 : decode cX11_likingOf 50 = .ok (.iconst 5, 1) := by decide +kernel
theorem dX11_likingOf_51 : decode cX11_likingOf 51 = .ok (.goto 4, 3) := by decide +kernel
theorem dX11_likingOf_54 : decode cX11_likingOf 54 = .ok (.iload_n 3, 1) := by decide +kernel
theorem dX11_likingOf_55 : decode cX11_likingOf 55 = .ok (.istore_n 3, 1) := by decide +kernel
theorem dX11_likingOf_56 : decode cX11_likingOf 56 = .ok (.iinc 4 1, 3) := by decide +kernel
theorem dX11_likingOf_59 : decode cX11_likingOf 59 = .ok (.goto (-54), 3) := by decide +kernel
theorem dX11_likingOf_62 : decode cX11_likingOf 62 = .ok (.aload_n 0, 1) := by decide +kernel
theorem dX11_likingOf_63 : decode cX11_likingOf 63 = .ok (.iload_n 2, 1) := by decide +kernel
theorem dX11_likingOf_64 : decode cX11_likingOf 64 = .ok (.invokevirtual 310, 3) := by decide +kernel
theorem dX11_likingOf_67 : decode cX11_likingOf 67 = .ok (.iload_n 3, 1) := by decide +kernel
theorem dX11_likingOf_68 : decode cX11_likingOf 68 = .ok (.iadd, 1) := by decide +kernel
theorem dX11_likingOf_69 : decode cX11_likingOf 69 = .ok (.ireturn, 1) := by decide +kernel
theorem dX11_liking_0 : decode cX11_liking 0 = .ok (.aload_n 0, 1) := by decide +kernel
theorem dX11_liking_1 : decode cX11_liking 1 = .ok (.iload_n 1, 1) := by decide +kernel
theorem dX11_liking_2 : decode cX11_liking 2 = .ok (.invokevirtual 325, 3) := by decide +kernel
theorem dX11_liking_5 : decode cX11_liking 5 = .ok (.ifCond .eq 20, 3) := by decide +kernel
theorem dX11_liking_8 : decode cX11_liking 8 = .ok (.aload_n 0, 1) := by decide +kernel
theorem dX11_liking_9 : decode cX11_liking 9 = .ok (.iload_n 2, 1) := by decide +kernel
theorem dX11_liking_10 : decode cX11_liking 10 = .ok (.invokevirtual 328, 3) := by decide +kernel
theorem dX11_liking_13 : decode cX11_liking 13 = .ok (.ifCond .eq 12, 3) := by decide +kernel
theorem dX11_liking_16 : decode cX11_liking 16 = .ok (.aload_n 0, 1) := by decide +kernel
theorem dX11_liking_17 : decode cX11_liking 17 = .ok (.iload_n 1, 1) := by decide +kernel
theorem dX11_liking_18 : decode cX11_liking 18 = .ok (.iload_n 2, 1) := by decide +kernel
theorem dX11_liking_19 : decode cX11_liking 19 = .ok (.invokevirtual 439, 3) := by decide +kernel
theorem dX11_liking_22 : decode cX11_liking 22 = .ok (.goto 4, 3) := by decide +kernel
theorem dX11_liking_25 : decode cX11_liking 25 = .ok (.iconst (-1), 1) := by decide +kernel
theorem dX11_liking_26 : decode cX11_liking 26 = .ok (.ireturn, 1) := by decide +kernel
theorem dX11_isTrade_0 : decode cX11_isTrade 0 = .ok (.aload_n 0, 1) := by decide +kernel
theorem dX11_isTrade_1 : decode cX11_isTrade 1 = .ok (.iload_n 1, 1) := by decide +kernel
theorem dX11_isTrade_2 : decode cX11_isTrade 2 = .ok (.iload_n 2, 1) := by decide +kernel
theorem dX11_isTrade_3 : decode cX11_isTrade 3 = .ok (.invokevirtual 335, 3) := by decide +kernel
theorem dX11_isTrade_6 : decode cX11_isTrade 6 = .ok (.iconst (-1), 1) := by decide +kernel
theorem dX11_isTrade_7 : decode cX11_isTrade 7 = .ok (.if_icmp .eq 5, 3) := by decide +kernel
theorem dX11_isTrade_10 : decode cX11_isTrade 10 = .ok (.iconst 0, 1) := by decide +kernel
theorem dX11_isTrade_11 : decode cX11_isTrade 11 = .ok (.ireturn, 1) := by decide +kernel
theorem dX11_isTrade_12 : decode cX11_isTrade 12 = .ok (.aload_n 0, 1) := by decide +kernel
theorem dX11_isTrade_13 : decode cX11_isTrade 13 = .ok (.getfield 64, 3) := by decide +kernel
theorem dX11_isTrade_16 : decode cX11_isTrade 16 = .ok (.iconst 0, 1) := by decide +kernel
theorem dX11_isTrade_17 : decode cX11_isTrade 17 = .ok (.iload_n 1, 1) := by decide +kernel
theorem dX11_isTrade_18 : decode cX11_isTrade 18 = .ok (.iadd, 1) := by decide +kernel
theorem dX11_isTrade_19 : decode cX11_isTrade 19 = .ok (.iaload, 1) := by decide +kernel
theorem dX11_isTrade_20 : decode cX11_isTrade 20 = .ok (.istore_n 3, 1) := by decide +kernel
theorem dX11_isTrade_21 : decode cX11_isTrade 21 = .ok (.aload_n 0, 1) := by decide +kernel
theorem dX11_isTrade_22 : decode cX11_isTrade 22 = .ok (.getfield 64, 3) := by decide +kernel
theorem dX11_isTrade_25 : decode cX11_isTrade 25 = .ok (.iconst 0, 1) := by decide +kernel
theorem dX11_isTrade_26 : decode cX11_isTrade 26 = .ok (.iload_n 2, 1) := by decide +kernel
theorem dX11_isTrade_27 : decode cX11_isTrade 27 = .ok (.iadd, 1) := by decide +kernel
theorem dX11_isTrade_28 : decode cX11_isTrade 28 = .ok (.iaload, 1) := by decide +kernel
theorem dX11_isTrade_29 : decode cX11_isTrade 29 = .ok (.istore 4, 2) := by decide +kernel
theorem dX11_isTrade_31 : decode cX11_isTrade 31 = .ok (.aload_n 0, 1) := by decide +kernel
theorem dX11_isTrade_32 : decode cX11_isTrade 32 = .ok (.iload_n 3, 1) := by decide +kernel
theorem dX11_isTrade_33 : decode cX11_isTrade 33 = .ok (.iload_n 2, 1) := by decide +kernel
theorem dX11_isTrade_34 : decode cX11_isTrade 34 = .ok (.invokevirtual 439, 3) := by decide +kernel
theorem dX11_isTrade_37 : decode cX11_isTrade 37 = .ok (.aload_n 0, 1) := by decide +kernel
theorem dX11_isTrade_38 : decode cX11_isTrade 38 = .ok (.iload_n 3, 1) := by decide +kernel
theorem dX11_isTrade_39 : decode cX11_isTrade 39 = .ok (.iload_n 1, 1) := by decide +kernel
theorem dX11_isTrade_40 : decode cX11_isTrade 40 = .ok (.invokevirtual 439, 3) := by decide +kernel
theorem dX11_isTrade_43 : decode cX11_isTrade 43 = .ok (.if_icmp .le 24, 3) := by decide +kernel
theorem dX11_isTrade_46 : decode cX11_isTrade 46 = .ok (.aload_n 0, 1) := by decide +kernel
theorem dX11_isTrade_47 : decode cX11_isTrade 47 = .ok (.iload 4, 2) := by decide +kernel
theorem dX11_isTrade_49 : decode cX11_isTrade 49 = .ok (.iload_n 1, 1) := by decide +kernel
theorem dX11_isTrade_50 : decode cX11_isTrade 50 = .ok (.invokevirtual 439, 3) := by decide +kernel
theorem dX11_isTrade_53 : decode cX11_isTrade 53 = .ok (.aload_n 0, 1) := by decide +kernel
theorem dX11_isTrade_54 : decode cX11_isTrade 54 = .ok (.iload 4, 2) := by decide +kernel
theorem dX11_isTrade_56 : decode cX11_isTrade 56 = .ok (.iload_n 2, 1) := by decide +kernel
theorem dX11_isTrade_57 : decode cX11_isTrade 57 = .ok (.invokevirtual 439, 3) := by decide +kernel
theorem dX11_isTrade_60 : decode cX11_isTrade 60 = .ok (.if_icmp .le 7, 3) := by decide +kernel
theorem dX11_isTrade_63 : decode cX11_isTrade 63 = .ok (.iconst 1, 1) := by decide +kernel
theorem dX11_isTrade_64 : decode cX11_isTrade 64 = .ok (.goto 4, 3) := by decide +kernel
theorem dX11_isTrade_67 : decode cX11_isTrade 67 = .ok (.iconst 0, 1) := by decide +kernel
theorem dX11_isTrade_68 : decode cX11_isTrade 68 = .ok (.ireturn, 1) := by decide +kernel
theorem dX11_trades_0 : decode cX11_trades 0 = .ok (.aload_n 0, 1) := by decide +kernel
theorem dX11_trades_1 : decode cX11_trades 1 = .ok (.getfield 261, 3) := by decide +kernel
theorem dX11_trades_4 : decode cX11_trades 4 = .ok (.ifCond .eq 8, 3) := by decide +kernel
theorem dX11_trades_7 : decode cX11_trades 7 = .ok (.iload_n 1, 1) := by decide +kernel
theorem dX11_trades_8 : decode cX11_trades 8 = .ok (.iconst (-1), 1) := by decide +kernel
theorem dX11_trades_9 : decode cX11_trades 9 = .ok (.if_icmp .ge 5, 3) := by decide +kernel
theorem dX11_trades_12 : decode cX11_trades 12 = .ok (.iconst (-1), 1) := by decide +kernel
theorem dX11_trades_13 : decode cX11_trades 13 = .ok (.ireturn, 1) := by decide +kernel
theorem dX11_trades_14 : decode cX11_trades 14 = .ok (.iconst 0, 1) := by decide +kernel
theorem dX11_trades_15 : decode cX11_trades 15 = .ok (.istore_n 2, 1) := by decide +kernel
theorem dX11_trades_16 : decode cX11_trades 16 = .ok (.iconst 0, 1) := by decide +kernel
theorem dX11_trades_17 : decode cX11_trades 17 = .ok (.istore_n 3, 1) := by decide +kernel
theorem dX11_trades_18 : decode cX11_trades 18 = .ok (.iload_n 3, 1) := by decide +kernel
theorem dX11_trades_19 : decode cX11_trades 19 = .ok (.aload_n 0, 1) := by decide +kernel
theorem dX11_trades_20 : decode cX11_trades 20 = .ok (.getfield 261, 3) := by decide +kernel
theorem dX11_trades_23 : decode cX11_trades 23 = .ok (.if_icmp .ge 55, 3) := by decide +kernel
theorem dX11_trades_26 : decode cX11_trades 26 = .ok (.iload_n 3, 1) := by decide +kernel
theorem dX11_trades_27 : decode cX11_trades 27 = .ok (.iconst 1, 1) := by decide +kernel
theorem dX11_trades_28 : decode cX11_trades 28 = .ok (.iadd, 1) := by decide +kernel
theorem dX11_trades_29 : decode cX11_trades 29 = .ok (.istore 4, 2) := by decide +kernel
theorem dX11_trades_31 : decode cX11_trades 31 = .ok (.iload 4, 2) := by decide +kernel
theorem dX11_trades_33 : decode cX11_trades 33 = .ok (.aload_n 0, 1) := by decide +kernel
theorem dX11_trades_34 : decode cX11_trades 34 = .ok (.getfield 261, 3) := by decide +kernel
theorem dX11_trades_37 : decode cX11_trades 37 = .ok (.if_icmp .ge 35, 3) := by decide +kernel
theorem dX11_trades_40 : decode cX11_trades 40 = .ok (.aload_n 0, 1) := by decide +kernel
theorem dX11_trades_41 : decode cX11_trades 41 = .ok (.iload_n 3, 1) := by decide +kernel
theorem dX11_trades_42 : decode cX11_trades 42 = .ok (.iload 4, 2) := by decide +kernel
theorem dX11_trades_44 : decode cX11_trades 44 = .ok (.invokevirtual 442, 3) := by decide +kernel
theorem dX11_trades_47 : decode cX11_trades 47 = .ok (.ifCond .eq 19, 3) := by decide +kernel
theorem dX11_trades_50 : decode cX11_trades 50 = .ok (.iload_n 2, 1) := by decide +kernel
theorem dX11_trades_51 : decode cX11_trades 51 = .ok (.iload_n 1, 1) := by decide +kernel
theorem dX11_trades_52 : decode cX11_trades 52 = .ok (.if_icmp .ne 11, 3) := by decide +kernel
theorem dX11_trades_55 : decode cX11_trades 55 = .ok (.bipush 10, 2) := by decide +kernel
theorem dX11_trades_57 : decode cX11_trades 57 = .ok (.iload_n 3, 1) := by decide +kernel
theorem dX11_trades_58 : decode cX11_trades 58 = .ok (.imul, 1) := by decide +kernel
theorem dX11_trades_59 : decode cX11_trades 59 = .ok (.iload 4, 2) := by decide +kernel
theorem dX11_trades_61 : decode cX11_trades 61 = .ok (.iadd, 1) := by decide +kernel
theorem dX11_trades_62 : decode cX11_trades 62 = .ok (.ireturn, 1) := by decide +kernel
theorem dX11_trades_63 : decode cX11_trades 63 = .ok (.iinc 2 1, 3) := by decide +kernel
theorem dX11_trades_66 : decode cX11_trades 66 = .ok (.iinc 4 1, 3) := by decide +kernel
theorem dX11_trades_69 : decode cX11_trades 69 = .ok (.goto (-38), 3) := by decide +kernel
theorem dX11_trades_72 : decode cX11_trades 72 = .ok (.iinc 3 1, 3) := by decide +kernel
theorem dX11_trades_75 : decode cX11_trades 75 = .ok (.goto (-57), 3) := by decide +kernel
theorem dX11_trades_78 : decode cX11_trades 78 = .ok (.iload_n 1, 1) := by decide +kernel
theorem dX11_trades_79 : decode cX11_trades 79 = .ok (.iconst (-1), 1) := by decide +kernel
theorem dX11_trades_80 : decode cX11_trades 80 = .ok (.if_icmp .ne 7, 3) := by decide +kernel
theorem dX11_trades_83 : decode cX11_trades 83 = .ok (.iload_n 2, 1) := by decide +kernel
theorem dX11_trades_84 : decode cX11_trades 84 = .ok (.goto 4, 3) := by decide +kernel
theorem dX11_trades_87 : decode cX11_trades 87 = .ok (.iconst (-1), 1) := by decide +kernel
theorem dX11_trades_88 : decode cX11_trades 88 = .ok (.ireturn, 1) := by decide +kernel
theorem dX11_partBy_0 : decode cX11_partBy 0 = .ok (.iload_n 0, 1) := by decide +kernel
theorem dX11_partBy_1 : decode cX11_partBy 1 = .ok (.i2l, 1) := by decide +kernel
theorem dX11_partBy_2 : decode cX11_partBy 2 = .ok (.iload_n 1, 1) := by decide +kernel
theorem dX11_partBy_3 : decode cX11_partBy 3 = .ok (.i2l, 1) := by decide +kernel
theorem dX11_partBy_4 : decode cX11_partBy 4 = .ok (.lmul, 1) := by decide +kernel
theorem dX11_partBy_5 : decode cX11_partBy 5 = .ok (.ldc2_w 445, 3) := by decide +kernel
theorem dX11_partBy_8 : decode cX11_partBy 8 = .ok (.ldiv, 1) := by decide +kernel
theorem dX11_partBy_9 : decode cX11_partBy 9 = .ok (.l2i, 1) := by decide +kernel
theorem dX11_partBy_10 : decode cX11_partBy 10 = .ok (.istore_n 3, 1) := by decide +kernel
theorem dX11_partBy_11 : decode cX11_partBy 11 = .ok (.iload_n 2, 1) := by decide +kernel
theorem dX11_partBy_12 : decode cX11_partBy 12 = .ok (.ifCond .ne 9, 3) := by decide +kernel
theorem dX11_partBy_15 : decode cX11_partBy 15 = .ok (.iload_n 0, 1) := by decide +kernel
theorem dX11_partBy_16 : decode cX11_partBy 16 = .ok (.iload_n 3, 1) := by decide +kernel
theorem dX11_partBy_17 : decode cX11_partBy 17 = .ok (.isub, 1) := by decide +kernel
theorem dX11_partBy_18 : decode cX11_partBy 18 = .ok (.goto 19, 3) := by decide +kernel
theorem dX11_partBy_21 : decode cX11_partBy 21 = .ok (.iload_n 2, 1) := by decide +kernel
theorem dX11_partBy_22 : decode cX11_partBy 22 = .ok (.iconst 1, 1) := by decide +kernel
theorem dX11_partBy_23 : decode cX11_partBy 23 = .ok (.if_icmp .ne 9, 3) := by decide +kernel
theorem dX11_partBy_26 : decode cX11_partBy 26 = .ok (.iload_n 3, 1) := by decide +kernel
theorem dX11_partBy_27 : decode cX11_partBy 27 = .ok (.iconst 2, 1) := by decide +kernel
theorem dX11_partBy_28 : decode cX11_partBy 28 = .ok (.idiv, 1) := by decide +kernel
theorem dX11_partBy_29 : decode cX11_partBy 29 = .ok (.goto 8, 3) := by decide +kernel
theorem dX11_partBy_32 : decode cX11_partBy 32 = .ok (.iload_n 3, 1) := by decide +kernel
theorem dX11_partBy_33 : decode cX11_partBy 33 = .ok (.iload_n 3, 1) := by decide +kernel
theorem dX11_partBy_34 : decode cX11_partBy 34 = .ok (.iconst 2, 1) := by decide +kernel
theorem dX11_partBy_35 : decode cX11_partBy 35 = .ok (.idiv, 1) := by decide +kernel
theorem dX11_partBy_36 : decode cX11_partBy 36 = .ok (.isub, 1) := by decide +kernel
theorem dX11_partBy_37 : decode cX11_partBy 37 = .ok (.ireturn, 1) := by decide +kernel
theorem dX11_cellBy_0 : decode cX11_cellBy 0 = .ok (.iload_n 1, 1) := by decide +kernel
theorem dX11_cellBy_1 : decode cX11_cellBy 1 = .ok (.ifCond .ne 7, 3) := by decide +kernel
theorem dX11_cellBy_4 : decode cX11_cellBy 4 = .ok (.iload_n 0, 1) := by decide +kernel
theorem dX11_cellBy_5 : decode cX11_cellBy 5 = .ok (.goto 21, 3) := by decide +kernel
theorem dX11_cellBy_8 : decode cX11_cellBy 8 = .ok (.iload_n 1, 1) := by decide +kernel
theorem dX11_cellBy_9 : decode cX11_cellBy 9 = .ok (.iconst 1, 1) := by decide +kernel
theorem dX11_cellBy_10 : decode cX11_cellBy 10 = .ok (.if_icmp .ne 13, 3) := by decide +kernel
theorem dX11_cellBy_13 : decode cX11_cellBy 13 = .ok (.iconst 0, 1) := by decide +kernel
theorem dX11_cellBy_14 : decode cX11_cellBy 14 = .ok (.iload_n 0, 1) := by decide +kernel
theorem dX11_cellBy_15 : decode cX11_cellBy 15 = .ok (.iconst 1, 1) := by decide +kernel
theorem dX11_cellBy_16 : decode cX11_cellBy 16 = .ok (.isub, 1) := by decide +kernel
theorem dX11_cellBy_17 : decode cX11_cellBy 17 = .ok (.invokestatic 299, 3) := by decide +kernel
theorem dX11_cellBy_20 : decode cX11_cellBy 20 = .ok (.goto 6, 3) := by decide +kernel
theorem dX11_cellBy_23 : decode cX11_cellBy 23 = .ok (.iload_n 0, 1) := by decide +kernel
theorem dX11_cellBy_24 : decode cX11_cellBy 24 = .ok (.iconst 1, 1) := by decide +kernel
theorem dX11_cellBy_25 : decode cX11_cellBy 25 = .ok (.iadd, 1) := by decide +kernel
theorem dX11_cellBy_26 : decode cX11_cellBy 26 = .ok (.ireturn, 1) := by decide +kernel
theorem dX11_odds_0 : decode cX11_odds 0 = .ok (.aload_n 0, 1) := by decide +kernel
theorem dX11_odds_1 : decode cX11_odds 1 = .ok (.iload_n 1, 1) := by decide +kernel
theorem dX11_odds_2 : decode cX11_odds 2 = .ok (.iload_n 2, 1) := by decide +kernel
theorem dX11_odds_3 : decode cX11_odds 3 = .ok (.iload_n 3, 1) := by decide +kernel
theorem dX11_odds_4 : decode cX11_odds 4 = .ok (.iload 4, 2) := by decide +kernel
theorem dX11_odds_6 : decode cX11_odds 6 = .ok (.invokevirtual 350, 3) := by decide +kernel
theorem dX11_odds_9 : decode cX11_odds 9 = .ok (.iconst (-1), 1) := by decide +kernel
theorem dX11_odds_10 : decode cX11_odds 10 = .ok (.if_icmp .ne 14, 3) := by decide +kernel
theorem dX11_odds_13 : decode cX11_odds 13 = .ok (.iload 5, 2) := by decide +kernel
theorem dX11_odds_15 : decode cX11_odds 15 = .ok (.iconst 0, 1) := by decide +kernel
theorem dX11_odds_16 : decode cX11_odds 16 = .ok (.bipush 100, 2) := by decide +kernel
theorem dX11_odds_18 : decode cX11_odds 18 = .ok (.invokestatic 208, 3) := by decide +kernel
theorem dX11_odds_21 : decode cX11_odds 21 = .ok (.ifCond .ne 5, 3) := by decide +kernel
theorem dX11_odds_24 : decode cX11_odds 24 = .ok (.iconst (-1), 1) := by decide +kernel
theorem dX11_odds_25 : decode cX11_odds 25 = .ok (.ireturn, 1) := by decide +kernel
theorem dX11_odds_26 : decode cX11_odds 26 = .ok (.aload_n 0, 1) := by decide +kernel
theorem dX11_odds_27 : decode cX11_odds 27 = .ok (.iload_n 1, 1) := by decide +kernel
theorem dX11_odds_28 : decode cX11_odds 28 = .ok (.iload_n 2, 1) := by decide +kernel
theorem dX11_odds_29 : decode cX11_odds 29 = .ok (.invokevirtual 344, 3) := by decide +kernel
theorem dX11_odds_32 : decode cX11_odds 32 = .ok (.istore 6, 2) := by decide +kernel
theorem dX11_odds_34 : decode cX11_odds 34 = .ok (.aload_n 0, 1) := by decide +kernel
theorem dX11_odds_35 : decode cX11_odds 35 = .ok (.iload_n 3, 1) := by decide +kernel
theorem dX11_odds_36 : decode cX11_odds 36 = .ok (.iload 4, 2) := by decide +kernel
theorem dX11_odds_38 : decode cX11_odds 38 = .ok (.invokevirtual 344, 3) := by decide +kernel
theorem dX11_odds_41 : decode cX11_odds 41 = .ok (.istore 7, 2) := by decide +kernel
theorem dX11_odds_43 : decode cX11_odds 43 = .ok (.iconst 0, 1) := by decide +kernel
theorem dX11_odds_44 : decode cX11_odds 44 = .ok (.istore 8, 2) := by decide +kernel
theorem dX11_odds_46 : decode cX11_odds 46 = .ok (.iconst 0, 1) := by decide +kernel
theorem dX11_odds_47 : decode cX11_odds 47 = .ok (.istore 9, 2) := by decide +kernel
theorem dX11_odds_49 : decode cX11_odds 49 = .ok (.iload 9, 2) := by decide +kernel
theorem dX11_odds_51 : decode cX11_odds 51 = .ok (.iconst 3, 1) := by decide +kernel
theorem dX11_odds_52 : decode cX11_odds 52 = .ok (.if_icmp .ge 76, 3) := by decide +kernel
theorem dX11_odds_55 : decode cX11_odds 55 = .ok (.ldc_w 447, 3) := by decide +kernel
theorem dX11_odds_58 : decode cX11_odds 58 = .ok (.iload 5, 2) := by decide +kernel
theorem dX11_odds_60 : decode cX11_odds 60 = .ok (.iload 9, 2) := by decide +kernel
theorem dX11_odds_62 : decode cX11_odds 62 = .ok (.invokestatic 448, 3) := by decide +kernel
theorem dX11_odds_65 : decode cX11_odds 65 = .ok (.istore 10, 2) := by decide +kernel
theorem dX11_odds_67 : decode cX11_odds 67 = .ok (.iconst 0, 1) := by decide +kernel
theorem dX11_odds_68 : decode cX11_odds 68 = .ok (.istore 11, 2) := by decide +kernel
theorem dX11_odds_70 : decode cX11_odds 70 = .ok (.iload 11, 2) := by decide +kernel
theorem dX11_odds_72 : decode cX11_odds 72 = .ok (.iconst 3, 1) := by decide +kernel
theorem dX11_odds_73 : decode cX11_odds 73 = .ok (.if_icmp .ge 49, 3) := by decide +kernel
theorem dX11_odds_76 : decode cX11_odds 76 = .ok (.iload 8, 2) := by decide +kernel
theorem dX11_odds_78 : decode cX11_odds 78 = .ok (.aload_n 0, 1) := by decide +kernel
theorem dX11_odds_79 : decode cX11_odds 79 = .ok (.iload 6, 2) := by decide +kernel
theorem dX11_odds_81 : decode cX11_odds 81 = .ok (.iload 9, 2) := by decide +kernel
theorem dX11_odds_83 : decode cX11_odds 83 = .ok (.invokestatic 451, 3) := by decide +kernel
theorem dX11_odds_86 : decode cX11_odds 86 = .ok (.iload 7, 2) := by decide +kernel
theorem dX11_odds_88 : decode cX11_odds 88 = .ok (.iload 11, 2) := by decide +kernel
theorem dX11_odds_90 : decode cX11_odds 90 = .ok (.invokestatic 451, 3) := by decide +kernel
theorem dX11_odds_93 : decode cX11_odds 93 = .ok (.invokevirtual 347, 3) := by decide +kernel
theorem dX11_odds_96 : decode cX11_odds 96 = .ok (.iconst 1, 1) := by decide +kernel
theorem dX11_odds_97 : decode cX11_odds 97 = .ok (.if_icmp .ne 15, 3) := by decide +kernel
theorem dX11_odds_100 : decode cX11_odds 100 = .ok (.iload 10, 2) := by decide +kernel
theorem dX11_odds_102 : decode cX11_odds 102 = .ok (.iload 5, 2) := by decide +kernel
theorem dX11_odds_104 : decode cX11_odds 104 = .ok (.iload 11, 2) := by decide +kernel
theorem dX11_odds_106 : decode cX11_odds 106 = .ok (.invokestatic 448, 3) := by decide +kernel
theorem dX11_odds_109 : decode cX11_odds 109 = .ok (.goto 4, 3) := by decide +kernel
theorem dX11_odds_112 : decode cX11_odds 112 = .ok (.iconst 0, 1) := by decide +kernel
theorem dX11_odds_113 : decode cX11_odds 113 = .ok (.iadd, 1) := by decide +kernel
theorem dX11_odds_114 : decode cX11_odds 114 = .ok (.istore 8, 2) := by decide +kernel
theorem dX11_odds_116 : decode cX11_odds 116 = .ok (.iinc 11 1, 3) := by decide +kernel
theorem dX11_odds_119 : decode cX11_odds 119 = .ok (.goto (-49), 3) := by decide +kernel
theorem dX11_odds_122 : decode cX11_odds 122 = .ok (.iinc 9 1, 3) := by decide +kernel
theorem dX11_odds_125 : decode cX11_odds 125 = .ok (.goto (-76), 3) := by decide +kernel
theorem dX11_odds_128 : decode cX11_odds 128 = .ok (.iload 8, 2) := by decide +kernel
theorem dX11_odds_130 : decode cX11_odds 130 = .ok (.ireturn, 1) := by decide +kernel
theorem dX11_sizesOf_0 : decode cX11_sizesOf 0 = .ok (.iconst 0, 1) := by decide +kernel
theorem dX11_sizesOf_1 : decode cX11_sizesOf 1 = .ok (.istore_n 2, 1) := by decide +kernel
theorem dX11_sizesOf_2 : decode cX11_sizesOf 2 = .ok (.iconst 0, 1) := by decide +kernel
theorem dX11_sizesOf_3 : decode cX11_sizesOf 3 = .ok (.istore_n 3, 1) := by decide +kernel
theorem dX11_sizesOf_4 : decode cX11_sizesOf 4 = .ok (.iload_n 3, 1) := by decide +kernel
theorem dX11_sizesOf_5 : decode cX11_sizesOf 5 = .ok (.aload_n 0, 1) := by decide +kernel
theorem dX11_sizesOf_6 : decode cX11_sizesOf 6 = .ok (.getfield 261, 3) := by decide +kernel
theorem dX11_sizesOf_9 : decode cX11_sizesOf 9 = .ok (.if_icmp .ge 30, 3) := by decide +kernel
theorem dX11_sizesOf_12 : decode cX11_sizesOf 12 = .ok (.iload_n 2, 1) := by decide +kernel
theorem dX11_sizesOf_13 : decode cX11_sizesOf 13 = .ok (.iload_n 1, 1) := by decide +kernel
theorem dX11_sizesOf_14 : decode cX11_sizesOf 14 = .ok (.iload_n 3, 1) := by decide +kernel
theorem dX11_sizesOf_15 : decode cX11_sizesOf 15 = .ok (.invokestatic 219, 3) := by decide +kernel
theorem dX11_sizesOf_18 : decode cX11_sizesOf 18 = .ok (.ifCond .eq 12, 3) := by decide +kernel
theorem dX11_sizesOf_21 : decode cX11_sizesOf 21 = .ok (.aload_n 0, 1) := by decide +kernel
theorem dX11_sizesOf_22 : decode cX11_sizesOf 22 = .ok (.iload_n 3, 1) := by decide +kernel
theorem dX11_sizesOf_23 : decode cX11_sizesOf 23 = .ok (.iconst 2, 1) := by decide +kernel
theorem dX11_sizesOf_24 : decode cX11_sizesOf 24 = .ok (.invokevirtual 267, 3) := by decide +kernel
theorem dX11_sizesOf_27 : decode cX11_sizesOf 27 = .ok (.goto 4, 3) := by decide +kernel
theorem dX11_sizesOf_30 : decode cX11_sizesOf 30 = .ok (.iconst 0, 1) := by decide +kernel
theorem dX11_sizesOf_31 : decode cX11_sizesOf 31 = .ok (.iadd, 1) := by decide +kernel
theorem dX11_sizesOf_32 : decode cX11_sizesOf 32 = .ok (.istore_n 2, 1) := by decide +kernel
theorem dX11_sizesOf_33 : decode cX11_sizesOf 33 = .ok (.iinc 3 1, 3) := by decide +kernel
theorem dX11_sizesOf_36 : decode cX11_sizesOf 36 = .ok (.goto (-32), 3) := by decide +kernel
theorem dX11_sizesOf_39 : decode cX11_sizesOf 39 = .ok (.iload_n 2, 1) := by decide +kernel
theorem dX11_sizesOf_40 : decode cX11_sizesOf 40 = .ok (.ireturn, 1) := by decide +kernel
theorem dX11_shares_0 : decode cX11_shares 0 = .ok (.aload_n 0, 1) := by decide +kernel
theorem dX11_shares_1 : decode cX11_shares 1 = .ok (.iload_n 1, 1) := by decide +kernel
theorem dX11_shares_2 : decode cX11_shares 2 = .ok (.invokevirtual 325, 3) := by decide +kernel
theorem dX11_shares_5 : decode cX11_shares 5 = .ok (.ifCond .eq 14, 3) := by decide +kernel
theorem dX11_shares_8 : decode cX11_shares 8 = .ok (.iload_n 2, 1) := by decide +kernel
theorem dX11_shares_9 : decode cX11_shares 9 = .ok (.iconst 0, 1) := by decide +kernel
theorem dX11_shares_10 : decode cX11_shares 10 = .ok (.sipush 999, 3) := by decide +kernel
theorem dX11_shares_13 : decode cX11_shares 13 = .ok (.invokestatic 208, 3) := by decide +kernel
theorem dX11_shares_16 : decode cX11_shares 16 = .ok (.ifCond .ne 5, 3) := by decide +kernel
theorem dX11_shares_19 : decode cX11_shares 19 = .ok (.iconst (-1), 1) := by decide +kernel
theorem dX11_shares_20 : decode cX11_shares 20 = .ok (.ireturn, 1) := by decide +kernel
theorem dX11_shares_21 : decode cX11_shares 21 = .ok (.aload_n 0, 1) := by decide +kernel
theorem dX11_shares_22 : decode cX11_shares 22 = .ok (.iconst 1, 1) := by decide +kernel
theorem dX11_shares_23 : decode cX11_shares 23 = .ok (.aload_n 0, 1) := by decide +kernel
theorem dX11_shares_24 : decode cX11_shares 24 = .ok (.getfield 261, 3) := by decide +kernel
theorem dX11_shares_27 : decode cX11_shares 27 = .ok (.ishl, 1) := by decide +kernel
theorem dX11_shares_28 : decode cX11_shares 28 = .ok (.iconst 1, 1) := by decide +kernel
theorem dX11_shares_29 : decode cX11_shares 29 = .ok (.isub, 1) := by decide +kernel
theorem dX11_shares_30 : decode cX11_shares 30 = .ok (.aload_n 0, 1) := by decide +kernel
theorem dX11_shares_31 : decode cX11_shares 31 = .ok (.invokevirtual 454, 3) := by decide +kernel
theorem dX11_shares_34 : decode cX11_shares 34 = .ok (.iconst (-1), 1) := by decide +kernel
theorem dX11_shares_35 : decode cX11_shares 35 = .ok (.ixor, 1) := by decide +kernel
theorem dX11_shares_36 : decode cX11_shares 36 = .ok (.iand, 1) := by decide +kernel
theorem dX11_shares_37 : decode cX11_shares 37 = .ok (.invokevirtual 457, 3) := by decide +kernel
theorem dX11_shares_40 : decode cX11_shares 40 = .ok (.istore_n 3, 1) := by decide +kernel
theorem dX11_shares_41 : decode cX11_shares 41 = .ok (.iload_n 3, 1) := by decide +kernel
theorem dX11_shares_42 : decode cX11_shares 42 = .ok (.ifCond .ne 7, 3) := by decide +kernel
theorem dX11_shares_45 : decode cX11_shares 45 = .ok (.iconst 0, 1) := by decide +kernel
theorem dX11_shares_46 : decode cX11_shares 46 = .ok (.goto 16, 3) := by decide +kernel
theorem dX11_shares_49 : decode cX11_shares 49 = .ok (.iload_n 2, 1) := by decide +kernel
theorem dX11_shares_50 : decode cX11_shares 50 = .ok (.aload_n 0, 1) := by decide +kernel
theorem dX11_shares_51 : decode cX11_shares 51 = .ok (.aload_n 0, 1) := by decide +kernel
theorem dX11_shares_52 : decode cX11_shares 52 = .ok (.iload_n 1, 1) := by decide +kernel
theorem dX11_shares_53 : decode cX11_shares 53 = .ok (.invokevirtual 286, 3) := by decide +kernel
theorem dX11_shares_56 : decode cX11_shares 56 = .ok (.invokevirtual 457, 3) := by decide +kernel
theorem dX11_shares_59 : decode cX11_shares 59 = .ok (.imul, 1) := by decide +kernel
theorem dX11_shares_60 : decode cX11_shares 60 = .ok (.iload_n 3, 1) := by decide +kernel
theorem dX11_shares_61 : decode cX11_shares 61 = .ok (.idiv, 1) := by decide +kernel
theorem dX11_shares_62 : decode cX11_shares 62 = .ok (.ireturn, 1) := by decide +kernel
theorem dX11_drained_0 : decode cX11_drained 0 = .ok (.iconst 0, 1) := by decide +kernel
theorem dX11_drained_1 : decode cX11_drained 1 = .ok (.istore_n 1, 1) := by decide +kernel
theorem dX11_drained_2 : decode cX11_drained 2 = .ok (.iconst 0, 1) := by decide +kernel
theorem dX11_drained_3 : decode cX11_drained 3 = .ok (.istore_n 2, 1) := by decide +kernel
theorem dX11_drained_4 : decode cX11_drained 4 = .ok (.iload_n 2, 1) := by decide +kernel
theorem dX11_drained_5 : decode cX11_drained 5 = .ok (.aload_n 0, 1) := by decide +kernel
theorem dX11_drained_6 : decode cX11_drained 6 = .ok (.getfield 261, 3) := by decide +kernel
theorem dX11_drained_9 : decode cX11_drained 9 = .ok (.if_icmp .ge 31, 3) := by decide +kernel
theorem dX11_drained_12 : decode cX11_drained 12 = .ok (.iload_n 1, 1) := by decide +kernel
theorem dX11_drained_13 : decode cX11_drained 13 = .ok (.aload_n 0, 1) := by decide +kernel
theorem dX11_drained_14 : decode cX11_drained 14 = .ok (.getfield 64, 3) := by decide +kernel
theorem dX11_drained_17 : decode cX11_drained 17 = .ok (.iconst 0, 1) := by decide +kernel
theorem dX11_drained_18 : decode cX11_drained 18 = .ok (.iload_n 2, 1) := by decide +kernel
theorem dX11_drained_19 : decode cX11_drained 19 = .ok (.iadd, 1) := by decide +kernel
theorem dX11_drained_20 : decode cX11_drained 20 = .ok (.iaload, 1) := by decide +kernel
theorem dX11_drained_21 : decode cX11_drained 21 = .ok (.iconst (-1), 1) := by decide +kernel
theorem dX11_drained_22 : decode cX11_drained 22 = .ok (.if_icmp .ne 9, 3) := by decide +kernel
theorem dX11_drained_25 : decode cX11_drained 25 = .ok (.iconst 1, 1) := by decide +kernel
theorem dX11_drained_26 : decode cX11_drained 26 = .ok (.iload_n 2, 1) := by decide +kernel
theorem dX11_drained_27 : decode cX11_drained 27 = .ok (.ishl, 1) := by decide +kernel
theorem dX11_drained_28 : decode cX11_drained 28 = .ok (.goto 4, 3) := by decide +kernel
theorem dX11_drained_31 : decode cX11_drained 31 = .ok (.iconst 0, 1) := by decide +kernel
theorem dX11_drained_32 : decode cX11_drained 32 = .ok (.ior, 1) := by decide +kernel
theorem dX11_drained_33 : decode cX11_drained 33 = .ok (.istore_n 1, 1) := by decide +kernel
theorem dX11_drained_34 : decode cX11_drained 34 = .ok (.iinc 2 1, 3) := by decide +kernel
theorem dX11_drained_37 : decode cX11_drained 37 = .ok (.goto (-33), 3) := by decide +kernel
theorem dX11_drained_40 : decode cX11_drained 40 = .ok (.iload_n 1, 1) := by decide +kernel
theorem dX11_drained_41 : decode cX11_drained 41 = .ok (.ireturn, 1) := by decide +kernel
theorem dX11_pays_0 : decode cX11_pays 0 = .ok (.aload_n 0, 1) := by decide +kernel
theorem dX11_pays_1 : decode cX11_pays 1 = .ok (.getfield 261, 3) := by decide +kernel
theorem dX11_pays_4 : decode cX11_pays 4 = .ok (.ifCond .ne 7, 3) := by decide +kernel
theorem dX11_pays_7 : decode cX11_pays 7 = .ok (.iconst (-1), 1) := by decide +kernel
theorem dX11_pays_8 : decode cX11_pays 8 = .ok (.goto 11, 3) := by decide +kernel
theorem dX11_pays_11 : decode cX11_pays 11 = .ok (.aload_n 0, 1) := by decide +kernel
theorem dX11_pays_12 : decode cX11_pays 12 = .ok (.aload_n 0, 1) := by decide +kernel
theorem dX11_pays_13 : decode cX11_pays 13 = .ok (.invokevirtual 369, 3) := by decide +kernel
theorem dX11_pays_16 : decode cX11_pays 16 = .ok (.invokevirtual 372, 3) := by decide +kernel
theorem dX11_pays_19 : decode cX11_pays 19 = .ok (.ireturn, 1) := by decide +kernel
theorem dX11_saves_0 : decode cX11_saves 0 = .ok (.aload_n 0, 1) := by decide +kernel
theorem dX11_saves_1 : decode cX11_saves 1 = .ok (.getfield 261, 3) := by decide +kernel
theorem dX11_saves_4 : decode cX11_saves 4 = .ok (.ifCond .eq 14, 3) := by decide +kernel
theorem dX11_saves_7 : decode cX11_saves 7 = .ok (.iload_n 1, 1) := by decide +kernel
theorem dX11_saves_8 : decode cX11_saves 8 = .ok (.iconst 1, 1) := by decide +kernel
theorem dX11_saves_9 : decode cX11_saves 9 = .ok (.sipush 999, 3) := by decide +kernel
theorem dX11_saves_12 : decode cX11_saves 12 = .ok (.invokestatic 208, 3) := by decide +kernel
theorem dX11_saves_15 : decode cX11_saves 15 = .ok (.ifCond .ne 5, 3) := by decide +kernel
theorem dX11_saves_18 : decode cX11_saves 18 = .ok (.iconst (-1), 1) := by decide +kernel
theorem dX11_saves_19 : decode cX11_saves 19 = .ok (.ireturn, 1) := by decide +kernel
theorem dX11_saves_20 : decode cX11_saves 20 = .ok (.aload_n 0, 1) := by decide +kernel
theorem dX11_saves_21 : decode cX11_saves 21 = .ok (.aload_n 0, 1) := by decide +kernel
theorem dX11_saves_22 : decode cX11_saves 22 = .ok (.invokevirtual 369, 3) := by decide +kernel
theorem dX11_saves_25 : decode cX11_saves 25 = .ok (.invokevirtual 372, 3) := by decide +kernel
theorem dX11_saves_28 : decode cX11_saves 28 = .ok (.istore_n 2, 1) := by decide +kernel
theorem dX11_saves_29 : decode cX11_saves 29 = .ok (.iconst 0, 1) := by decide +kernel
theorem dX11_saves_30 : decode cX11_saves 30 = .ok (.istore_n 3, 1) := by decide +kernel
theorem dX11_saves_31 : decode cX11_saves 31 = .ok (.iload_n 3, 1) := by decide +kernel
theorem dX11_saves_32 : decode cX11_saves 32 = .ok (.bipush 60, 2) := by decide +kernel
theorem dX11_saves_34 : decode cX11_saves 34 = .ok (.if_icmp .gt 26, 3) := by decide +kernel
theorem dX11_saves_37 : decode cX11_saves 37 = .ok (.aload_n 0, 1) := by decide +kernel
theorem dX11_saves_38 : decode cX11_saves 38 = .ok (.getfield 64, 3) := by decide +kernel
theorem dX11_saves_41 : decode cX11_saves 41 = .ok (.bipush 8, 2) := by decide +kernel
theorem dX11_saves_43 : decode cX11_saves 43 = .ok (.iaload, 1) := by decide +kernel
theorem dX11_saves_44 : decode cX11_saves 44 = .ok (.iload_n 3, 1) := by decide +kernel
theorem dX11_saves_45 : decode cX11_saves 45 = .ok (.iload_n 2, 1) := by decide +kernel
theorem dX11_saves_46 : decode cX11_saves 46 = .ok (.imul, 1) := by decide +kernel
theorem dX11_saves_47 : decode cX11_saves 47 = .ok (.iadd, 1) := by decide +kernel
theorem dX11_saves_48 : decode cX11_saves 48 = .ok (.iload_n 1, 1) := by decide +kernel
theorem dX11_saves_49 : decode cX11_saves 49 = .ok (.if_icmp .lt 5, 3) := by decide +kernel
theorem dX11_saves_52 : decode cX11_saves 52 = .ok (.iload_n 3, 1) := by decide +kernel
theorem dX11_saves_53 : decode cX11_saves 53 = .ok (.ireturn, 1) := by decide +kernel
theorem dX11_saves_54 : decode cX11_saves 54 = .ok (.iinc 3 1, 3) := by decide +kernel
theorem dX11_saves_57 : decode cX11_saves 57 = .ok (.goto (-26), 3) := by decide +kernel
theorem dX11_saves_60 : decode cX11_saves 60 = .ok (.iconst (-1), 1) := by decide +kernel
theorem dX11_saves_61 : decode cX11_saves 61 = .ok (.ireturn, 1) := by decide +kernel
theorem dX11_hands_0 : decode cX11_hands 0 = .ok (.aload_n 0, 1) := by decide +kernel
theorem dX11_hands_1 : decode cX11_hands 1 = .ok (.iload_n 1, 1) := by decide +kernel
theorem dX11_hands_2 : decode cX11_hands 2 = .ok (.invokevirtual 325, 3) := by decide +kernel
theorem dX11_hands_5 : decode cX11_hands 5 = .ok (.ifCond .eq 11, 3) := by decide +kernel
theorem dX11_hands_8 : decode cX11_hands 8 = .ok (.aload_n 0, 1) := by decide +kernel
theorem dX11_hands_9 : decode cX11_hands 9 = .ok (.iload_n 1, 1) := by decide +kernel
theorem dX11_hands_10 : decode cX11_hands 10 = .ok (.invokevirtual 286, 3) := by decide +kernel
theorem dX11_hands_13 : decode cX11_hands 13 = .ok (.goto 4, 3) := by decide +kernel
theorem dX11_hands_16 : decode cX11_hands 16 = .ok (.iconst (-1), 1) := by decide +kernel
theorem dX11_hands_17 : decode cX11_hands 17 = .ok (.ireturn, 1) := by decide +kernel
theorem dX11_richest_0 : decode cX11_richest 0 = .ok (.iconst 0, 1) := by decide +kernel
theorem dX11_richest_1 : decode cX11_richest 1 = .ok (.istore_n 1, 1) := by decide +kernel
theorem dX11_richest_2 : decode cX11_richest 2 = .ok (.iconst 1, 1) := by decide +kernel
theorem dX11_richest_3 : decode cX11_richest 3 = .ok (.istore_n 2, 1) := by decide +kernel
theorem dX11_richest_4 : decode cX11_richest 4 = .ok (.iload_n 2, 1) := by decide +kernel
theorem dX11_richest_5 : decode cX11_richest 5 = .ok (.aload_n 0, 1) := by decide +kernel
theorem dX11_richest_6 : decode cX11_richest 6 = .ok (.getfield 258, 3) := by decide +kernel
theorem dX11_richest_9 : decode cX11_richest 9 = .ok (.if_icmp .ge 34, 3) := by decide +kernel
theorem dX11_richest_12 : decode cX11_richest 12 = .ok (.aload_n 0, 1) := by decide +kernel
theorem dX11_richest_13 : decode cX11_richest 13 = .ok (.iload_n 2, 1) := by decide +kernel
theorem dX11_richest_14 : decode cX11_richest 14 = .ok (.invokevirtual 286, 3) := by decide +kernel
theorem dX11_richest_17 : decode cX11_richest 17 = .ok (.invokestatic 289, 3) := by decide +kernel
theorem dX11_richest_20 : decode cX11_richest 20 = .ok (.aload_n 0, 1) := by decide +kernel
theorem dX11_richest_21 : decode cX11_richest 21 = .ok (.iload_n 1, 1) := by decide +kernel
theorem dX11_richest_22 : decode cX11_richest 22 = .ok (.invokevirtual 286, 3) := by decide +kernel
theorem dX11_richest_25 : decode cX11_richest 25 = .ok (.invokestatic 289, 3) := by decide +kernel
theorem dX11_richest_28 : decode cX11_richest 28 = .ok (.if_icmp .le 7, 3) := by decide +kernel
theorem dX11_richest_31 : decode cX11_richest 31 = .ok (.iload_n 2, 1) := by decide +kernel
theorem dX11_richest_32 : decode cX11_richest 32 = .ok (.goto 4, 3) := by decide +kernel
theorem dX11_richest_35 : decode cX11_richest 35 = .ok (.iload_n 1, 1) := by decide +kernel
theorem dX11_richest_36 : decode cX11_richest 36 = .ok (.istore_n 1, 1) := by decide +kernel
theorem dX11_richest_37 : decode cX11_richest 37 = .ok (.iinc 2 1, 3) := by decide +kernel
theorem dX11_richest_40 : decode cX11_richest 40 = .ok (.goto (-36), 3) := by decide +kernel
theorem dX11_richest_43 : decode cX11_richest 43 = .ok (.iload_n 1, 1) := by decide +kernel
theorem dX11_richest_44 : decode cX11_richest 44 = .ok (.ireturn, 1) := by decide +kernel
theorem dX11_strongest_0 : decode cX11_strongest 0 = .ok (.iconst (-1), 1) := by decide +kernel
theorem dX11_strongest_1 : decode cX11_strongest 1 = .ok (.istore_n 2, 1) := by decide +kernel
theorem dX11_strongest_2 : decode cX11_strongest 2 = .ok (.iconst 0, 1) := by decide +kernel
theorem dX11_strongest_3 : decode cX11_strongest 3 = .ok (.istore_n 3, 1) := by decide +kernel
theorem dX11_strongest_4 : decode cX11_strongest 4 = .ok (.iload_n 3, 1) := by decide +kernel
theorem dX11_strongest_5 : decode cX11_strongest 5 = .ok (.aload_n 0, 1) := by decide +kernel
theorem dX11_strongest_6 : decode cX11_strongest 6 = .ok (.getfield 261, 3) := by decide +kernel
theorem dX11_strongest_9 : decode cX11_strongest 9 = .ok (.if_icmp .ge 43, 3) := by decide +kernel
theorem dX11_strongest_12 : decode cX11_strongest 12 = .ok (.iload_n 1, 1) := by decide +kernel
theorem dX11_strongest_13 : decode cX11_strongest 13 = .ok (.iload_n 3, 1) := by decide +kernel
theorem dX11_strongest_14 : decode cX11_strongest 14 = .ok (.invokestatic 219, 3) := by decide +kernel
theorem dX11_strongest_17 : decode cX11_strongest 17 = .ok (.ifCond .eq 27, 3) := by decide +kernel
theorem dX11_strongest_20 : decode cX11_strongest 20 = .ok (.iload_n 2, 1) := by decide +kernel
theorem dX11_strongest_21 : decode cX11_strongest 21 = .ok (.iconst (-1), 1) := by decide +kernel
theorem dX11_strongest_22 : decode cX11_strongest 22 = .ok (.if_icmp .eq 18, 3) := by decide +kernel
theorem dX11_strongest_25 : decode cX11_strongest 25 = .ok (.aload_n 0, 1) := by decide +kernel
theorem dX11_strongest_26 : decode cX11_strongest 26 = .ok (.iload_n 3, 1) := by decide +kernel
theorem dX11_strongest_27 : decode cX11_strongest 27 = .ok (.iconst 2, 1) := by decide +kernel
theorem dX11_strongest_28 : decode cX11_strongest 28 = .ok (.invokevirtual 267, 3) := by decide +kernel
theorem dX11_strongest_31 : decode cX11_strongest 31 = .ok (.aload_n 0, 1) := by decide +kernel
theorem dX11_strongest_32 : decode cX11_strongest 32 = .ok (.iload_n 2, 1) := by decide +kernel
theorem dX11_strongest_33 : decode cX11_strongest 33 = .ok (.iconst 2, 1) := by decide +kernel
theorem dX11_strongest_34 : decode cX11_strongest 34 = .ok (.invokevirtual 267, 3) := by decide +kernel
theorem dX11_strongest_37 : decode cX11_strongest 37 = .ok (.if_icmp .le 7, 3) := by decide +kernel
theorem dX11_strongest_40 : decode cX11_strongest 40 = .ok (.iload_n 3, 1) := by decide +kernel
theorem dX11_strongest_41 : decode cX11_strongest 41 = .ok (.goto 4, 3) := by decide +kernel
theorem dX11_strongest_44 : decode cX11_strongest 44 = .ok (.iload_n 2, 1) := by decide +kernel
theorem dX11_strongest_45 : decode cX11_strongest 45 = .ok (.istore_n 2, 1) := by decide +kernel
theorem dX11_strongest_46 : decode cX11_strongest 46 = .ok (.iinc 3 1, 3) := by decide +kernel
theorem dX11_strongest_49 : decode cX11_strongest 49 = .ok (.goto (-45), 3) := by decide +kernel
theorem dX11_strongest_52 : decode cX11_strongest 52 = .ok (.iload_n 2, 1) := by decide +kernel
theorem dX11_strongest_53 : decode cX11_strongest 53 = .ok (.ireturn, 1) := by decide +kernel
theorem dX11_champion_0 : decode cX11_champion 0 = .ok (.iconst (-1), 1) := by decide +kernel
theorem dX11_champion_1 : decode cX11_champion 1 = .ok (.istore_n 1, 1) := by decide +kernel
theorem dX11_champion_2 : decode cX11_champion 2 = .ok (.iconst 0, 1) := by decide +kernel
theorem dX11_champion_3 : decode cX11_champion 3 = .ok (.istore_n 2, 1) := by decide +kernel
theorem dX11_champion_4 : decode cX11_champion 4 = .ok (.iconst 0, 1) := by decide +kernel
theorem dX11_champion_5 : decode cX11_champion 5 = .ok (.istore_n 3, 1) := by decide +kernel
theorem dX11_champion_6 : decode cX11_champion 6 = .ok (.iload_n 3, 1) := by decide +kernel
theorem dX11_champion_7 : decode cX11_champion 7 = .ok (.aload_n 0, 1) := by decide +kernel
theorem dX11_champion_8 : decode cX11_champion 8 = .ok (.getfield 258, 3) := by decide +kernel
theorem dX11_champion_11 : decode cX11_champion 11 = .ok (.if_icmp .ge 96, 3) := by decide +kernel
theorem dX11_champion_14 : decode cX11_champion 14 = .ok (.aload_n 0, 1) := by decide +kernel
theorem dX11_champion_15 : decode cX11_champion 15 = .ok (.aload_n 0, 1) := by decide +kernel
theorem dX11_champion_16 : decode cX11_champion 16 = .ok (.iload_n 3, 1) := by decide +kernel
theorem dX11_champion_17 : decode cX11_champion 17 = .ok (.invokevirtual 286, 3) := by decide +kernel
theorem dX11_champion_20 : decode cX11_champion 20 = .ok (.aload_n 0, 1) := by decide +kernel
theorem dX11_champion_21 : decode cX11_champion 21 = .ok (.getfield 64, 3) := by decide +kernel
theorem dX11_champion_24 : decode cX11_champion 24 = .ok (.bipush 7, 2) := by decide +kernel
theorem dX11_champion_26 : decode cX11_champion 26 = .ok (.iaload, 1) := by decide +kernel
theorem dX11_champion_27 : decode cX11_champion 27 = .ok (.iconst (-1), 1) := by decide +kernel
theorem dX11_champion_28 : decode cX11_champion 28 = .ok (.ixor, 1) := by decide +kernel
theorem dX11_champion_29 : decode cX11_champion 29 = .ok (.iand, 1) := by decide +kernel
theorem dX11_champion_30 : decode cX11_champion 30 = .ok (.invokevirtual 460, 3) := by decide +kernel
theorem dX11_champion_33 : decode cX11_champion 33 = .ok (.istore 4, 2) := by decide +kernel
theorem dX11_champion_35 : decode cX11_champion 35 = .ok (.iload 4, 2) := by decide +kernel
theorem dX11_champion_37 : decode cX11_champion 37 = .ok (.iconst (-1), 1) := by decide +kernel
theorem dX11_champion_38 : decode cX11_champion 38 = .ok (.if_icmp .ne 7, 3) := by decide +kernel
theorem dX11_champion_41 : decode cX11_champion 41 = .ok (.iconst (-1), 1) := by decide +kernel
theorem dX11_champion_42 : decode cX11_champion 42 = .ok (.goto 10, 3) := by decide +kernel
theorem dX11_champion_45 : decode cX11_champion 45 = .ok (.aload_n 0, 1) := by decide +kernel
theorem dX11_champion_46 : decode cX11_champion 46 = .ok (.iload_n 3, 1) := by decide +kernel
theorem dX11_champion_47 : decode cX11_champion 47 = .ok (.iload 4, 2) := by decide +kernel
theorem dX11_champion_49 : decode cX11_champion 49 = .ok (.invokevirtual 398, 3) := by decide +kernel
theorem dX11_champion_52 : decode cX11_champion 52 = .ok (.istore 5, 2) := by decide +kernel
theorem dX11_champion_54 : decode cX11_champion 54 = .ok (.iload 5, 2) := by decide +kernel
theorem dX11_champion_56 : decode cX11_champion 56 = .ok (.iconst (-1), 1) := by decide +kernel
theorem dX11_champion_57 : decode cX11_champion 57 = .ok (.if_icmp .ne 7, 3) := by decide +kernel
theorem dX11_champion_60 : decode cX11_champion 60 = .ok (.iconst 0, 1) := by decide +kernel
theorem dX11_champion_61 : decode cX11_champion 61 = .ok (.goto 16, 3) := by decide +kernel
theorem dX11_champion_64 : decode cX11_champion 64 = .ok (.aload_n 0, 1) := by decide +kernel
theorem dX11_champion_65 : decode cX11_champion 65 = .ok (.aload_n 0, 1) := by decide +kernel
theorem dX11_champion_66 : decode cX11_champion 66 = .ok (.iload_n 3, 1) := by decide +kernel
theorem dX11_champion_67 : decode cX11_champion 67 = .ok (.iload 4, 2) := by decide +kernel
theorem dX11_champion_69 : decode cX11_champion 69 = .ok (.iload 5, 2) := by decide +kernel
theorem dX11_champion_71 : decode cX11_champion 71 = .ok (.invokevirtual 341, 3) := by decide +kernel
theorem dX11_champion_74 : decode cX11_champion 74 = .ok (.invokevirtual 307, 3) := by decide +kernel
theorem dX11_champion_77 : decode cX11_champion 77 = .ok (.istore 6, 2) := by decide +kernel
theorem dX11_champion_79 : decode cX11_champion 79 = .ok (.iload 5, 2) := by decide +kernel
theorem dX11_champion_81 : decode cX11_champion 81 = .ok (.iconst (-1), 1) := by decide +kernel
theorem dX11_champion_82 : decode cX11_champion 82 = .ok (.if_icmp .eq 19, 3) := by decide +kernel
theorem dX11_champion_85 : decode cX11_champion 85 = .ok (.iload_n 1, 1) := by decide +kernel
theorem dX11_champion_86 : decode cX11_champion 86 = .ok (.iconst (-1), 1) := by decide +kernel
theorem dX11_champion_87 : decode cX11_champion 87 = .ok (.if_icmp .eq 9, 3) := by decide +kernel
theorem dX11_champion_90 : decode cX11_champion 90 = .ok (.iload 6, 2) := by decide +kernel
theorem dX11_champion_92 : decode cX11_champion 92 = .ok (.iload_n 2, 1) := by decide +kernel
theorem dX11_champion_93 : decode cX11_champion 93 = .ok (.if_icmp .ge 8, 3) := by decide +kernel
theorem dX11_champion_96 : decode cX11_champion 96 = .ok (.iload_n 3, 1) := by decide +kernel
theorem dX11_champion_97 : decode cX11_champion 97 = .ok (.istore_n 1, 1) := by decide +kernel
theorem dX11_champion_98 : decode cX11_champion 98 = .ok (.iload 6, 2) := by decide +kernel
theorem dX11_champion_100 : decode cX11_champion 100 = .ok (.istore_n 2, 1) := by decide +kernel
theorem dX11_champion_101 : decode cX11_champion 101 = .ok (.iinc 3 1, 3) := by decide +kernel
theorem dX11_champion_104 : decode cX11_champion 104 = .ok (.goto (-98), 3) := by decide +kernel
theorem dX11_champion_107 : decode cX11_champion 107 = .ok (.iload_n 1, 1) := by decide +kernel
theorem dX11_champion_108 : decode cX11_champion 108 = .ok (.ireturn, 1) := by decide +kernel
theorem dX11_most_0 : decode cX11_most 0 = .ok (.aload_n 0, 1) := by decide +kernel
theorem dX11_most_1 : decode cX11_most 1 = .ok (.getfield 261, 3) := by decide +kernel
theorem dX11_most_4 : decode cX11_most 4 = .ok (.ifCond .eq 12, 3) := by decide +kernel
theorem dX11_most_7 : decode cX11_most 7 = .ok (.iload_n 1, 1) := by decide +kernel
theorem dX11_most_8 : decode cX11_most 8 = .ok (.iconst 0, 1) := by decide +kernel
theorem dX11_most_9 : decode cX11_most 9 = .ok (.iconst 3, 1) := by decide +kernel
theorem dX11_most_10 : decode cX11_most 10 = .ok (.invokestatic 208, 3) := by decide +kernel
theorem dX11_most_13 : decode cX11_most 13 = .ok (.ifCond .ne 5, 3) := by decide +kernel
theorem dX11_most_16 : decode cX11_most 16 = .ok (.iconst (-1), 1) := by decide +kernel
theorem dX11_most_17 : decode cX11_most 17 = .ok (.ireturn, 1) := by decide +kernel
theorem dX11_most_18 : decode cX11_most 18 = .ok (.iconst 0, 1) := by decide +kernel
theorem dX11_most_19 : decode cX11_most 19 = .ok (.istore_n 2, 1) := by decide +kernel
theorem dX11_most_20 : decode cX11_most 20 = .ok (.iconst 0, 1) := by decide +kernel
theorem dX11_most_21 : decode cX11_most 21 = .ok (.istore_n 3, 1) := by decide +kernel
theorem dX11_most_22 : decode cX11_most 22 = .ok (.iload_n 3, 1) := by decide +kernel
theorem dX11_most_23 : decode cX11_most 23 = .ok (.bipush 10, 2) := by decide +kernel
theorem dX11_most_25 : decode cX11_most 25 = .ok (.if_icmp .ge 28, 3) := by decide +kernel
theorem dX11_most_28 : decode cX11_most 28 = .ok (.iload_n 2, 1) := by decide +kernel
theorem dX11_most_29 : decode cX11_most 29 = .ok (.aload_n 0, 1) := by decide +kernel
theorem dX11_most_30 : decode cX11_most 30 = .ok (.iload_n 3, 1) := by decide +kernel
theorem dX11_most_31 : decode cX11_most 31 = .ok (.invokevirtual 319, 3) := by decide +kernel
theorem dX11_most_34 : decode cX11_most 34 = .ok (.iconst (-1), 1) := by decide +kernel
theorem dX11_most_35 : decode cX11_most 35 = .ok (.if_icmp .ne 9, 3) := by decide +kernel
theorem dX11_most_38 : decode cX11_most 38 = .ok (.iconst 1, 1) := by decide +kernel
theorem dX11_most_39 : decode cX11_most 39 = .ok (.iload_n 3, 1) := by decide +kernel
theorem dX11_most_40 : decode cX11_most 40 = .ok (.ishl, 1) := by decide +kernel
theorem dX11_most_41 : decode cX11_most 41 = .ok (.goto 4, 3) := by decide +kernel
theorem dX11_most_44 : decode cX11_most 44 = .ok (.iconst 0, 1) := by decide +kernel
theorem dX11_most_45 : decode cX11_most 45 = .ok (.ior, 1) := by decide +kernel
theorem dX11_most_46 : decode cX11_most 46 = .ok (.istore_n 2, 1) := by decide +kernel
theorem dX11_most_47 : decode cX11_most 47 = .ok (.iinc 3 1, 3) := by decide +kernel
theorem dX11_most_50 : decode cX11_most 50 = .ok (.goto (-28), 3) := by decide +kernel
theorem dX11_most_53 : decode cX11_most 53 = .ok (.iload_n 1, 1) := by decide +kernel
theorem dX11_most_54 : decode cX11_most 54 = .ok (.ifCond .ne 10, 3) := by decide +kernel
theorem dX11_most_57 : decode cX11_most 57 = .ok (.aload_n 0, 1) := by decide +kernel
theorem dX11_most_58 : decode cX11_most 58 = .ok (.invokevirtual 463, 3) := by decide +kernel
theorem dX11_most_61 : decode cX11_most 61 = .ok (.goto 43, 3) := by decide +kernel
theorem dX11_most_64 : decode cX11_most 64 = .ok (.iload_n 1, 1) := by decide +kernel
theorem dX11_most_65 : decode cX11_most 65 = .ok (.iconst 1, 1) := by decide +kernel
theorem dX11_most_66 : decode cX11_most 66 = .ok (.if_icmp .ne 25, 3) := by decide +kernel
theorem dX11_most_69 : decode cX11_most 69 = .ok (.aload_n 0, 1) := by decide +kernel
theorem dX11_most_70 : decode cX11_most 70 = .ok (.iconst 1, 1) := by decide +kernel
theorem dX11_most_71 : decode cX11_most 71 = .ok (.aload_n 0, 1) := by decide +kernel
theorem dX11_most_72 : decode cX11_most 72 = .ok (.getfield 261, 3) := by decide +kernel
theorem dX11_most_75 : decode cX11_most 75 = .ok (.ishl, 1) := by decide +kernel
theorem dX11_most_76 : decode cX11_most 76 = .ok (.iconst 1, 1) := by decide +kernel
theorem dX11_most_77 : decode cX11_most 77 = .ok (.isub, 1) := by decide +kernel
theorem dX11_most_78 : decode cX11_most 78 = .ok (.aload_n 0, 1) := by decide +kernel
theorem dX11_most_79 : decode cX11_most 79 = .ok (.invokevirtual 454, 3) := by decide +kernel
theorem dX11_most_82 : decode cX11_most 82 = .ok (.iconst (-1), 1) := by decide +kernel
theorem dX11_most_83 : decode cX11_most 83 = .ok (.ixor, 1) := by decide +kernel
theorem dX11_most_84 : decode cX11_most 84 = .ok (.iand, 1) := by decide +kernel
theorem dX11_most_85 : decode cX11_most 85 = .ok (.invokevirtual 460, 3) := by decide +kernel
theorem dX11_most_88 : decode cX11_most 88 = .ok (.goto 16, 3) := by decide +kernel
theorem dX11_most_91 : decode cX11_most 91 = .ok (.iload_n 1, 1) := by decide +kernel
theorem dX11_most_92 : decode cX11_most 92 = .ok (.iconst 2, 1) := by decide +kernel
theorem dX11_most_93 : decode cX11_most 93 = .ok (.if_icmp .ne 7, 3) := by decide +kernel
theorem dX11_most_96 : decode cX11_most 96 = .ok (.iload_n 2, 1) := by decide +kernel
theorem dX11_most_97 : decode cX11_most 97 = .ok (.goto 7, 3) := by decide +kernel
theorem dX11_most_100 : decode cX11_most 100 = .ok (.aload_n 0, 1) := by decide +kernel
theorem dX11_most_101 : decode cX11_most 101 = .ok (.invokevirtual 466, 3) := by decide +kernel
theorem dX11_most_104 : decode cX11_most 104 = .ok (.ireturn, 1) := by decide +kernel
theorem dX11_image_0 : decode cX11_image 0 = .ok (.aload_n 0, 1) := by decide +kernel
theorem dX11_image_1 : decode cX11_image 1 = .ok (.getfield 261, 3) := by decide +kernel
theorem dX11_image_4 : decode cX11_image 4 = .ok (.ifCond .ne 5, 3) := by decide +kernel
theorem dX11_image_7 : decode cX11_image 7 = .ok (.iconst (-1), 1) := by decide +kernel
theorem dX11_image_8 : decode cX11_image 8 = .ok (.ireturn, 1) := by decide +kernel
theorem dX11_image_9 : decode cX11_image 9 = .ok (.iconst 0, 1) := by decide +kernel
theorem dX11_image_10 : decode cX11_image 10 = .ok (.istore_n 1, 1) := by decide +kernel
theorem dX11_image_11 : decode cX11_image 11 = .ok (.iload_n 1, 1) := by decide +kernel
theorem dX11_image_12 : decode cX11_image 12 = .ok (.sipush 131, 3) := by decide +kernel
theorem dX11_image_15 : decode cX11_image 15 = .ok (.if_icmp .ge 21, 3) := by decide +kernel
theorem dX11_image_18 : decode cX11_image 18 = .ok (.aload_n 0, 1) := by decide +kernel
theorem dX11_image_19 : decode cX11_image 19 = .ok (.getfield 90, 3) := by decide +kernel
theorem dX11_image_22 : decode cX11_image 22 = .ok (.iload_n 1, 1) := by decide +kernel
theorem dX11_image_23 : decode cX11_image 23 = .ok (.aload_n 0, 1) := by decide +kernel
theorem dX11_image_24 : decode cX11_image 24 = .ok (.getfield 64, 3) := by decide +kernel
theorem dX11_image_27 : decode cX11_image 27 = .ok (.iload_n 1, 1) := by decide +kernel
theorem dX11_image_28 : decode cX11_image 28 = .ok (.iaload, 1) := by decide +kernel
theorem dX11_image_29 : decode cX11_image 29 = .ok (.iastore, 1) := by decide +kernel
theorem dX11_image_30 : decode cX11_image 30 = .ok (.iinc 1 1, 3) := by decide +kernel
theorem dX11_image_33 : decode cX11_image 33 = .ok (.goto (-22), 3) := by decide +kernel
theorem dX11_image_36 : decode cX11_image 36 = .ok (.aload_n 0, 1) := by decide +kernel
theorem dX11_image_37 : decode cX11_image 37 = .ok (.iconst 1, 1) := by decide +kernel
theorem dX11_image_38 : decode cX11_image 38 = .ok (.putfield 276, 3) := by decide +kernel
theorem dX11_image_41 : decode cX11_image 41 = .ok (.aload_n 0, 1) := by decide +kernel
theorem dX11_image_42 : decode cX11_image 42 = .ok (.getfield 64, 3) := by decide +kernel
theorem dX11_image_45 : decode cX11_image 45 = .ok (.bipush 9, 2) := by decide +kernel
theorem dX11_image_47 : decode cX11_image 47 = .ok (.iaload, 1) := by decide +kernel
theorem dX11_image_48 : decode cX11_image 48 = .ok (.ireturn, 1) := by decide +kernel
theorem dX11_back_0 : decode cX11_back 0 = .ok (.aload_n 0, 1) := by decide +kernel
theorem dX11_back_1 : decode cX11_back 1 = .ok (.getfield 276, 3) := by decide +kernel
theorem dX11_back_4 : decode cX11_back 4 = .ok (.ifCond .ne 5, 3) := by decide +kernel
theorem dX11_back_7 : decode cX11_back 7 = .ok (.iconst (-1), 1) := by decide +kernel
theorem dX11_back_8 : decode cX11_back 8 = .ok (.ireturn, 1) := by decide +kernel
theorem dX11_back_9 : decode cX11_back 9 = .ok (.iconst 0, 1) := by decide +kernel
theorem dX11_back_10 : decode cX11_back 10 = .ok (.istore_n 1, 1) := by decide +kernel
theorem dX11_back_11 : decode cX11_back 11 = .ok (.iload_n 1, 1) := by decide +kernel
theorem dX11_back_12 : decode cX11_back 12 = .ok (.sipush 131, 3) := by decide +kernel
theorem dX11_back_15 : decode cX11_back 15 = .ok (.if_icmp .ge 21, 3) := by decide +kernel
theorem dX11_back_18 : decode cX11_back 18 = .ok (.aload_n 0, 1) := by decide +kernel
theorem dX11_back_19 : decode cX11_back 19 = .ok (.getfield 64, 3) := by decide +kernel
theorem dX11_back_22 : decode cX11_back 22 = .ok (.iload_n 1, 1) := by decide +kernel
theorem dX11_back_23 : decode cX11_back 23 = .ok (.aload_n 0, 1) := by decide +kernel
theorem dX11_back_24 : decode cX11_back 24 = .ok (.getfield 90, 3) := by decide +kernel
theorem dX11_back_27 : decode cX11_back 27 = .ok (.iload_n 1, 1) := by decide +kernel
theorem dX11_back_28 : decode cX11_back 28 = .ok (.iaload, 1) := by decide +kernel
theorem dX11_back_29 : decode cX11_back 29 = .ok (.iastore, 1) := by decide +kernel
theorem dX11_back_30 : decode cX11_back 30 = .ok (.iinc 1 1, 3) := by decide +kernel
theorem dX11_back_33 : decode cX11_back 33 = .ok (.goto (-22), 3) := by decide +kernel
theorem dX11_back_36 : decode cX11_back 36 = .ok (.aload_n 0, 1) := by decide +kernel
theorem dX11_back_37 : decode cX11_back 37 = .ok (.iconst 0, 1) := by decide +kernel
theorem dX11_back_38 : decode cX11_back 38 = .ok (.putfield 273, 3) := by decide +kernel
theorem dX11_back_41 : decode cX11_back 41 = .ok (.aload_n 0, 1) := by decide +kernel
theorem dX11_back_42 : decode cX11_back 42 = .ok (.getfield 64, 3) := by decide +kernel
theorem dX11_back_45 : decode cX11_back 45 = .ok (.bipush 9, 2) := by decide +kernel
theorem dX11_back_47 : decode cX11_back 47 = .ok (.iaload, 1) := by decide +kernel
theorem dX11_back_48 : decode cX11_back 48 = .ok (.ireturn, 1) := by decide +kernel
theorem dX11_count_0 : decode cX11_count 0 = .ok (.iload_n 1, 1) := by decide +kernel
theorem dX11_count_1 : decode cX11_count 1 = .ok (.tableswitch 138 0 12 #[67, 72, 77, 82, 87, 92, 97, 105, 110, 115, 120, 125, 133], 67) := by decide +kernel
theorem dX11_count_68 : decode cX11_count 68 = .ok (.aload_n 0, 1) := by decide +kernel
theorem dX11_count_69 : decode cX11_count 69 = .ok (.getfield 261, 3) := by decide +kernel
theorem dX11_count_72 : decode cX11_count 72 = .ok (.ireturn, 1) := by decide +kernel
theorem dX11_count_73 : decode cX11_count 73 = .ok (.aload_n 0, 1) := by decide +kernel
theorem dX11_count_74 : decode cX11_count 74 = .ok (.getfield 258, 3) := by decide +kernel
theorem dX11_count_77 : decode cX11_count 77 = .ok (.ireturn, 1) := by decide +kernel
theorem dX11_count_78 : decode cX11_count 78 = .ok (.aload_n 0, 1) := by decide +kernel
theorem dX11_count_79 : decode cX11_count 79 = .ok (.getfield 264, 3) := by decide +kernel
theorem dX11_count_82 : decode cX11_count 82 = .ok (.ireturn, 1) := by decide +kernel
theorem dX11_count_83 : decode cX11_count 83 = .ok (.aload_n 0, 1) := by decide +kernel
theorem dX11_count_84 : decode cX11_count 84 = .ok (.getfield 283, 3) := by decide +kernel
theorem dX11_count_87 : decode cX11_count 87 = .ok (.ireturn, 1) := by decide +kernel
theorem dX11_count_88 : decode cX11_count 88 = .ok (.aload_n 0, 1) := by decide +kernel
theorem dX11_count_89 : decode cX11_count 89 = .ok (.getfield 100, 3) := by decide +kernel
theorem dX11_count_92 : decode cX11_count 92 = .ok (.ireturn, 1) := by decide +kernel
theorem dX11_count_93 : decode cX11_count 93 = .ok (.aload_n 0, 1) := by decide +kernel
theorem dX11_count_94 : decode cX11_count 94 = .ok (.getfield 70, 3) := by decide +kernel
theorem dX11_count_97 : decode cX11_count 97 = .ok (.ireturn, 1) := by decide +kernel
theorem dX11_count_98 : decode cX11_count 98 = .ok (.aload_n 0, 1) := by decide +kernel
theorem dX11_count_99 : decode cX11_count 99 = .ok (.getfield 64, 3) := by decide +kernel
theorem dX11_count_102 : decode cX11_count 102 = .ok (.bipush 9, 2) := by decide +kernel
theorem dX11_count_104 : decode cX11_count 104 = .ok (.iaload, 1) := by decide +kernel
theorem dX11_count_105 : decode cX11_count 105 = .ok (.ireturn, 1) := by decide +kernel
theorem dX11_count_106 : decode cX11_count 106 = .ok (.aload_n 0, 1) := by decide +kernel
theorem dX11_count_107 : decode cX11_count 107 = .ok (.invokevirtual 369, 3) := by decide +kernel
theorem dX11_count_110 : decode cX11_count 110 = .ok (.ireturn, 1) := by decide +kernel
theorem dX11_count_111 : decode cX11_count 111 = .ok (.aload_n 0, 1) := by decide +kernel
theorem dX11_count_112 : decode cX11_count 112 = .ok (.invokevirtual 454, 3) := by decide +kernel
theorem dX11_count_115 : decode cX11_count 115 = .ok (.ireturn, 1) := by decide +kernel
theorem dX11_count_116 : decode cX11_count 116 = .ok (.aload_n 0, 1) := by decide +kernel
theorem dX11_count_117 : decode cX11_count 117 = .ok (.getfield 381, 3) := by decide +kernel
theorem dX11_count_120 : decode cX11_count 120 = .ok (.ireturn, 1) := by decide +kernel
theorem dX11_count_121 : decode cX11_count 121 = .ok (.aload_n 0, 1) := by decide +kernel
theorem dX11_count_122 : decode cX11_count 122 = .ok (.getfield 270, 3) := by decide +kernel
theorem dX11_count_125 : decode cX11_count 125 = .ok (.ireturn, 1) := by decide +kernel
theorem dX11_count_126 : decode cX11_count 126 = .ok (.aload_n 0, 1) := by decide +kernel
theorem dX11_count_127 : decode cX11_count 127 = .ok (.getfield 64, 3) := by decide +kernel
theorem dX11_count_130 : decode cX11_count 130 = .ok (.bipush 10, 2) := by decide +kernel
theorem dX11_count_132 : decode cX11_count 132 = .ok (.iaload, 1) := by decide +kernel
theorem dX11_count_133 : decode cX11_count 133 = .ok (.ireturn, 1) := by decide +kernel
theorem dX11_count_134 : decode cX11_count 134 = .ok (.aload_n 0, 1) := by decide +kernel
theorem dX11_count_135 : decode cX11_count 135 = .ok (.getfield 273, 3) := by decide +kernel
theorem dX11_count_138 : decode cX11_count 138 = .ok (.ireturn, 1) := by decide +kernel
theorem dX11_count_139 : decode cX11_count 139 = .ok (.ldc_w 331, 3) := by decide +kernel
theorem dX11_count_142 : decode cX11_count 142 = .ok (.ireturn, 1) := by decide +kernel
theorem dJ6_bitCount_0f7a4_0 : decode cJ6_bitCount_0f7a4 0 = .ok (.iload_n 0, 1) := by decide +kernel
theorem dJ6_bitCount_0f7a4_1 : decode cJ6_bitCount_0f7a4 1 = .ok (.iload_n 0, 1) := by decide +kernel
theorem dJ6_bitCount_0f7a4_2 : decode cJ6_bitCount_0f7a4 2 = .ok (.iconst 1, 1) := by decide +kernel
theorem dJ6_bitCount_0f7a4_3 : decode cJ6_bitCount_0f7a4 3 = .ok (.iushr, 1) := by decide +kernel
theorem dJ6_bitCount_0f7a4_4 : decode cJ6_bitCount_0f7a4 4 = .ok (.ldc_w 265, 3) := by decide +kernel
theorem dJ6_bitCount_0f7a4_7 : decode cJ6_bitCount_0f7a4 7 = .ok (.iand, 1) := by decide +kernel
theorem dJ6_bitCount_0f7a4_8 : decode cJ6_bitCount_0f7a4 8 = .ok (.isub, 1) := by decide +kernel
theorem dJ6_bitCount_0f7a4_9 : decode cJ6_bitCount_0f7a4 9 = .ok (.istore_n 0, 1) := by decide +kernel
theorem dJ6_bitCount_0f7a4_10 : decode cJ6_bitCount_0f7a4 10 = .ok (.iload_n 0, 1) := by decide +kernel
theorem dJ6_bitCount_0f7a4_11 : decode cJ6_bitCount_0f7a4 11 = .ok (.ldc_w 266, 3) := by decide +kernel
theorem dJ6_bitCount_0f7a4_14 : decode cJ6_bitCount_0f7a4 14 = .ok (.iand, 1) := by decide +kernel
theorem dJ6_bitCount_0f7a4_15 : decode cJ6_bitCount_0f7a4 15 = .ok (.iload_n 0, 1) := by decide +kernel
theorem dJ6_bitCount_0f7a4_16 : decode cJ6_bitCount_0f7a4 16 = .ok (.iconst 2, 1) := by decide +kernel
theorem dJ6_bitCount_0f7a4_17 : decode cJ6_bitCount_0f7a4 17 = .ok (.iushr, 1) := by decide +kernel
theorem dJ6_bitCount_0f7a4_18 : decode cJ6_bitCount_0f7a4 18 = .ok (.ldc_w 266, 3) := by decide +kernel
theorem dJ6_bitCount_0f7a4_21 : decode cJ6_bitCount_0f7a4 21 = .ok (.iand, 1) := by decide +kernel
theorem dJ6_bitCount_0f7a4_22 : decode cJ6_bitCount_0f7a4 22 = .ok (.iadd, 1) := by decide +kernel
theorem dJ6_bitCount_0f7a4_23 : decode cJ6_bitCount_0f7a4 23 = .ok (.istore_n 0, 1) := by decide +kernel
theorem dJ6_bitCount_0f7a4_24 : decode cJ6_bitCount_0f7a4 24 = .ok (.iload_n 0, 1) := by decide +kernel
theorem dJ6_bitCount_0f7a4_25 : decode cJ6_bitCount_0f7a4 25 = .ok (.iload_n 0, 1) := by decide +kernel
theorem dJ6_bitCount_0f7a4_26 : decode cJ6_bitCount_0f7a4 26 = .ok (.iconst 4, 1) := by decide +kernel
theorem dJ6_bitCount_0f7a4_27 : decode cJ6_bitCount_0f7a4 27 = .ok (.iushr, 1) := by decide +kernel
theorem dJ6_bitCount_0f7a4_28 : decode cJ6_bitCount_0f7a4 28 = .ok (.iadd, 1) := by decide +kernel
theorem dJ6_bitCount_0f7a4_29 : decode cJ6_bitCount_0f7a4 29 = .ok (.ldc_w 267, 3) := by decide +kernel
theorem dJ6_bitCount_0f7a4_32 : decode cJ6_bitCount_0f7a4 32 = .ok (.iand, 1) := by decide +kernel
theorem dJ6_bitCount_0f7a4_33 : decode cJ6_bitCount_0f7a4 33 = .ok (.istore_n 0, 1) := by decide +kernel
theorem dJ6_bitCount_0f7a4_34 : decode cJ6_bitCount_0f7a4 34 = .ok (.iload_n 0, 1) := by decide +kernel
theorem dJ6_bitCount_0f7a4_35 : decode cJ6_bitCount_0f7a4 35 = .ok (.iload_n 0, 1) := by decide +kernel
theorem dJ6_bitCount_0f7a4_36 : decode cJ6_bitCount_0f7a4 36 = .ok (.bipush 8, 2) := by decide +kernel
theorem dJ6_bitCount_0f7a4_38 : decode cJ6_bitCount_0f7a4 38 = .ok (.iushr, 1) := by decide +kernel
theorem dJ6_bitCount_0f7a4_39 : decode cJ6_bitCount_0f7a4 39 = .ok (.iadd, 1) := by decide +kernel
theorem dJ6_bitCount_0f7a4_40 : decode cJ6_bitCount_0f7a4 40 = .ok (.istore_n 0, 1) := by decide +kernel
theorem dJ6_bitCount_0f7a4_41 : decode cJ6_bitCount_0f7a4 41 = .ok (.iload_n 0, 1) := by decide +kernel
theorem dJ6_bitCount_0f7a4_42 : decode cJ6_bitCount_0f7a4 42 = .ok (.iload_n 0, 1) := by decide +kernel
theorem dJ6_bitCount_0f7a4_43 : decode cJ6_bitCount_0f7a4 43 = .ok (.bipush 16, 2) := by decide +kernel
theorem dJ6_bitCount_0f7a4_45 : decode cJ6_bitCount_0f7a4 45 = .ok (.iushr, 1) := by decide +kernel
theorem dJ6_bitCount_0f7a4_46 : decode cJ6_bitCount_0f7a4 46 = .ok (.iadd, 1) := by decide +kernel
theorem dJ6_bitCount_0f7a4_47 : decode cJ6_bitCount_0f7a4 47 = .ok (.istore_n 0, 1) := by decide +kernel
theorem dJ6_bitCount_0f7a4_48 : decode cJ6_bitCount_0f7a4 48 = .ok (.iload_n 0, 1) := by decide +kernel
theorem dJ6_bitCount_0f7a4_49 : decode cJ6_bitCount_0f7a4 49 = .ok (.bipush 63, 2) := by decide +kernel
theorem dJ6_bitCount_0f7a4_51 : decode cJ6_bitCount_0f7a4 51 = .ok (.iand, 1) := by decide +kernel
theorem dJ6_bitCount_0f7a4_52 : decode cJ6_bitCount_0f7a4 52 = .ok (.ireturn, 1) := by decide +kernel
theorem dJ9_abs_0f7a4_0 : decode cJ9_abs_0f7a4 0 = .ok (.iload_n 0, 1) := by decide +kernel
theorem dJ9_abs_0f7a4_1 : decode cJ9_abs_0f7a4 1 = .ok (.ifCond .ge 8, 3) := by decide +kernel
theorem dJ9_abs_0f7a4_4 : decode cJ9_abs_0f7a4 4 = .ok (.iload_n 0, 1) := by decide +kernel
theorem dJ9_abs_0f7a4_5 : decode cJ9_abs_0f7a4 5 = .ok (.ineg, 1) := by decide +kernel
theorem dJ9_abs_0f7a4_6 : decode cJ9_abs_0f7a4 6 = .ok (.goto 4, 3) := by decide +kernel
theorem dJ9_abs_0f7a4_9 : decode cJ9_abs_0f7a4 9 = .ok (.iload_n 0, 1) := by decide +kernel
theorem dJ9_abs_0f7a4_10 : decode cJ9_abs_0f7a4 10 = .ok (.ireturn, 1) := by decide +kernel
theorem dJ9_max_7cf53_0 : decode cJ9_max_7cf53 0 = .ok (.iload_n 0, 1) := by decide +kernel
theorem dJ9_max_7cf53_1 : decode cJ9_max_7cf53 1 = .ok (.iload_n 1, 1) := by decide +kernel
theorem dJ9_max_7cf53_2 : decode cJ9_max_7cf53 2 = .ok (.if_icmp .lt 7, 3) := by decide +kernel
theorem dJ9_max_7cf53_5 : decode cJ9_max_7cf53 5 = .ok (.iload_n 0, 1) := by decide +kernel
theorem dJ9_max_7cf53_6 : decode cJ9_max_7cf53 6 = .ok (.goto 4, 3) := by decide +kernel
theorem dJ9_max_7cf53_9 : decode cJ9_max_7cf53 9 = .ok (.iload_n 1, 1) := by decide +kernel
theorem dJ9_max_7cf53_10 : decode cJ9_max_7cf53 10 = .ok (.ireturn, 1) := by decide +kernel
theorem dJ9_max_f86c9_0 : decode cJ9_max_f86c9 0 = .ok (.lload_n 0, 1) := by decide +kernel
theorem dJ9_max_f86c9_1 : decode cJ9_max_f86c9 1 = .ok (.lload_n 2, 1) := by decide +kernel
theorem dJ9_max_f86c9_2 : decode cJ9_max_f86c9 2 = .ok (.lcmp, 1) := by decide +kernel
theorem dJ9_max_f86c9_3 : decode cJ9_max_f86c9 3 = .ok (.ifCond .lt 7, 3) := by decide +kernel
theorem dJ9_max_f86c9_6 : decode cJ9_max_f86c9 6 = .ok (.lload_n 0, 1) := by decide +kernel
theorem dJ9_max_f86c9_7 : decode cJ9_max_f86c9 7 = .ok (.goto 4, 3) := by decide +kernel
theorem dJ9_max_f86c9_10 : decode cJ9_max_f86c9 10 = .ok (.lload_n 2, 1) := by decide +kernel
theorem dJ9_max_f86c9_11 : decode cJ9_max_f86c9 11 = .ok (.lreturn, 1) := by decide +kernel
theorem dJ9_min_7cf53_0 : decode cJ9_min_7cf53 0 = .ok (.iload_n 0, 1) := by decide +kernel
theorem dJ9_min_7cf53_1 : decode cJ9_min_7cf53 1 = .ok (.iload_n 1, 1) := by decide +kernel
theorem dJ9_min_7cf53_2 : decode cJ9_min_7cf53 2 = .ok (.if_icmp .gt 7, 3) := by decide +kernel
theorem dJ9_min_7cf53_5 : decode cJ9_min_7cf53 5 = .ok (.iload_n 0, 1) := by decide +kernel
theorem dJ9_min_7cf53_6 : decode cJ9_min_7cf53 6 = .ok (.goto 4, 3) := by decide +kernel
theorem dJ9_min_7cf53_9 : decode cJ9_min_7cf53 9 = .ok (.iload_n 1, 1) := by decide +kernel
theorem dJ9_min_7cf53_10 : decode cJ9_min_7cf53 10 = .ok (.ireturn, 1) := by decide +kernel
theorem dJ9_min_f86c9_0 : decode cJ9_min_f86c9 0 = .ok (.lload_n 0, 1) := by decide +kernel
theorem dJ9_min_f86c9_1 : decode cJ9_min_f86c9 1 = .ok (.lload_n 2, 1) := by decide +kernel
theorem dJ9_min_f86c9_2 : decode cJ9_min_f86c9 2 = .ok (.lcmp, 1) := by decide +kernel
theorem dJ9_min_f86c9_3 : decode cJ9_min_f86c9 3 = .ok (.ifCond .gt 7, 3) := by decide +kernel
theorem dJ9_min_f86c9_6 : decode cJ9_min_f86c9 6 = .ok (.lload_n 0, 1) := by decide +kernel
theorem dJ9_min_f86c9_7 : decode cJ9_min_f86c9 7 = .ok (.goto 4, 3) := by decide +kernel
theorem dJ9_min_f86c9_10 : decode cJ9_min_f86c9 10 = .ok (.lload_n 2, 1) := by decide +kernel
theorem dJ9_min_f86c9_11 : decode cJ9_min_f86c9 11 = .ok (.lreturn, 1) := by decide +kernel
theorem dJ7_fill_53178_0 : decode cJ7_fill_53178 0 = .ok (.iconst 0, 1) := by decide +kernel
theorem dJ7_fill_53178_1 : decode cJ7_fill_53178 1 = .ok (.istore_n 2, 1) := by decide +kernel
theorem dJ7_fill_53178_2 : decode cJ7_fill_53178 2 = .ok (.aload_n 0, 1) := by decide +kernel
theorem dJ7_fill_53178_3 : decode cJ7_fill_53178 3 = .ok (.arraylength, 1) := by decide +kernel
theorem dJ7_fill_53178_4 : decode cJ7_fill_53178 4 = .ok (.istore_n 3, 1) := by decide +kernel
theorem dJ7_fill_53178_5 : decode cJ7_fill_53178 5 = .ok (.iload_n 2, 1) := by decide +kernel
theorem dJ7_fill_53178_6 : decode cJ7_fill_53178 6 = .ok (.iload_n 3, 1) := by decide +kernel
theorem dJ7_fill_53178_7 : decode cJ7_fill_53178 7 = .ok (.if_icmp .ge 13, 3) := by decide +kernel
theorem dJ7_fill_53178_10 : decode cJ7_fill_53178 10 = .ok (.aload_n 0, 1) := by decide +kernel
theorem dJ7_fill_53178_11 : decode cJ7_fill_53178 11 = .ok (.iload_n 2, 1) := by decide +kernel
theorem dJ7_fill_53178_12 : decode cJ7_fill_53178 12 = .ok (.iload_n 1, 1) := by decide +kernel
theorem dJ7_fill_53178_13 : decode cJ7_fill_53178 13 = .ok (.iastore, 1) := by decide +kernel
theorem dJ7_fill_53178_14 : decode cJ7_fill_53178 14 = .ok (.iinc 2 1, 3) := by decide +kernel
theorem dJ7_fill_53178_17 : decode cJ7_fill_53178 17 = .ok (.goto (-12), 3) := by decide +kernel
theorem dJ7_fill_53178_20 : decode cJ7_fill_53178 20 = .ok (.return_, 1) := by decide +kernel
theorem dL_boy_0 : decode cL_boy 0 = .ok (.aload_n 3, 1) := by decide +kernel
theorem dL_boy_1 : decode cL_boy 1 = .ok (.iconst 0, 1) := by decide +kernel
theorem dL_boy_2 : decode cL_boy 2 = .ok (.aload_n 0, 1) := by decide +kernel
theorem dL_boy_3 : decode cL_boy 3 = .ok (.iload_n 1, 1) := by decide +kernel
theorem dL_boy_4 : decode cL_boy 4 = .ok (.iload_n 2, 1) := by decide +kernel
theorem dL_boy_5 : decode cL_boy 5 = .ok (.invokevirtual 7, 3) := by decide +kernel
theorem dL_boy_8 : decode cL_boy 8 = .ok (.i2l, 1) := by decide +kernel
theorem dL_boy_9 : decode cL_boy 9 = .ok (.lastore, 1) := by decide +kernel
theorem dL_boy_10 : decode cL_boy 10 = .ok (.goto 7, 3) := by decide +kernel
theorem dL_boy_13 : decode cL_boy 13 = .ok (.astore 4, 2) := by decide +kernel
theorem dL_boy_15 : decode cL_boy 15 = .ok (.iconst 1, 1) := by decide +kernel
theorem dL_boy_16 : decode cL_boy 16 = .ok (.ireturn, 1) := by decide +kernel
theorem dL_boy_17 : decode cL_boy 17 = .ok (.iconst 0, 1) := by decide +kernel
theorem dL_boy_18 : decode cL_boy 18 = .ok (.ireturn, 1) := by decide +kernel
theorem dL_law_0 : decode cL_law 0 = .ok (.new 8, 3) := by decide +kernel
theorem dL_law_3 : decode cL_law 3 = .ok (.dup, 1) := by decide +kernel
theorem dL_law_4 : decode cL_law 4 = .ok (.invokespecial 15, 3) := by decide +kernel
theorem dL_law_7 : decode cL_law 7 = .ok (.astore_n 1, 1) := by decide +kernel
theorem dL_law_8 : decode cL_law 8 = .ok (.new 16, 3) := by decide +kernel
theorem dL_law_11 : decode cL_law 11 = .ok (.dup, 1) := by decide +kernel
theorem dL_law_12 : decode cL_law 12 = .ok (.invokespecial 18, 3) := by decide +kernel
theorem dL_law_15 : decode cL_law 15 = .ok (.astore_n 2, 1) := by decide +kernel
theorem dL_law_16 : decode cL_law 16 = .ok (.iconst 1, 1) := by decide +kernel
theorem dL_law_17 : decode cL_law 17 = .ok (.newarray .long, 2) := by decide +kernel
theorem dL_law_19 : decode cL_law 19 = .ok (.astore_n 3, 1) := by decide +kernel
theorem dL_law_20 : decode cL_law 20 = .ok (.iconst 0, 1) := by decide +kernel
theorem dL_law_21 : decode cL_law 21 = .ok (.istore 4, 2) := by decide +kernel
theorem dL_law_23 : decode cL_law 23 = .ok (.iload 4, 2) := by decide +kernel
theorem dL_law_25 : decode cL_law 25 = .ok (.aload_n 0, 1) := by decide +kernel
theorem dL_law_26 : decode cL_law 26 = .ok (.arraylength, 1) := by decide +kernel
theorem dL_law_27 : decode cL_law 27 = .ok (.bipush 6, 2) := by decide +kernel
theorem dL_law_29 : decode cL_law 29 = .ok (.isub, 1) := by decide +kernel
theorem dL_law_30 : decode cL_law 30 = .ok (.if_icmp .gt 1718, 3) := by decide +kernel
theorem dL_law_33 : decode cL_law 33 = .ok (.aload_n 0, 1) := by decide +kernel
theorem dL_law_34 : decode cL_law 34 = .ok (.iload 4, 2) := by decide +kernel
theorem dL_law_36 : decode cL_law 36 = .ok (.iaload, 1) := by decide +kernel
theorem dL_law_37 : decode cL_law 37 = .ok (.bipush 63, 2) := by decide +kernel
theorem dL_law_39 : decode cL_law 39 = .ok (.iand, 1) := by decide +kernel
theorem dL_law_40 : decode cL_law 40 = .ok (.tableswitch 1702 0 42 #[188, 261, 286, 311, 336, 361, 429, 466, 503, 528, 589, 626, 663, 688, 713, 738, 763, 832, 857, 870, 907, 956, 993, 1054, 1079, 1116, 1141, 1206, 1231, 1244, 1317, 1366, 1391, 1428, 1453, 1526, 1563, 1576, 1601, 1626, 1651, 1664, 1677], 188) := by decide +kernel
theorem dL_law_228 : decode cL_law 228 = .ok (.aload_n 1, 1) := by decide +kernel
theorem dL_law_229 : decode cL_law 229 = .ok (.aload_n 0, 1) := by decide +kernel
theorem dL_law_230 : decode cL_law 230 = .ok (.iload 4, 2) := by decide +kernel
theorem dL_law_232 : decode cL_law 232 = .ok (.iconst 1, 1) := by decide +kernel
theorem dL_law_233 : decode cL_law 233 = .ok (.iadd, 1) := by decide +kernel
theorem dL_law_234 : decode cL_law 234 = .ok (.iaload, 1) := by decide +kernel
theorem dL_law_235 : decode cL_law 235 = .ok (.aload_n 0, 1) := by decide +kernel
theorem dL_law_236 : decode cL_law 236 = .ok (.iload 4, 2) := by decide +kernel
theorem dL_law_238 : decode cL_law 238 = .ok (.iconst 2, 1) := by decide +kernel
theorem dL_law_239 : decode cL_law 239 = .ok (.iadd, 1) := by decide +kernel
theorem dL_law_240 : decode cL_law 240 = .ok (.iaload, 1) := by decide +kernel
theorem dL_law_241 : decode cL_law 241 = .ok (.aload_n 0, 1) := by decide +kernel
theorem dL_law_242 : decode cL_law 242 = .ok (.iload 4, 2) := by decide +kernel
theorem dL_law_244 : decode cL_law 244 = .ok (.iconst 3, 1) := by decide +kernel
theorem dL_law_245 : decode cL_law 245 = .ok (.iadd, 1) := by decide +kernel
theorem dL_law_246 : decode cL_law 246 = .ok (.iaload, 1) := by decide +kernel
theorem dL_law_247 : decode cL_law 247 = .ok (.aload_n 0, 1) := by decide +kernel
theorem dL_law_248 : decode cL_law 248 = .ok (.iload 4, 2) := by decide +kernel
theorem dL_law_250 : decode cL_law 250 = .ok (.iconst 4, 1) := by decide +kernel
theorem dL_law_251 : decode cL_law 251 = .ok (.iadd, 1) := by decide +kernel
theorem dL_law_252 : decode cL_law 252 = .ok (.iaload, 1) := by decide +kernel
theorem dL_law_253 : decode cL_law 253 = .ok (.aload_n 0, 1) := by decide +kernel
theorem dL_law_254 : decode cL_law 254 = .ok (.iload 4, 2) := by decide +kernel
theorem dL_law_256 : decode cL_law 256 = .ok (.iconst 5, 1) := by decide +kernel
theorem dL_law_257 : decode cL_law 257 = .ok (.iadd, 1) := by decide +kernel
theorem dL_law_258 : decode cL_law 258 = .ok (.iaload, 1) := by decide +kernel
theorem dL_law_259 : decode cL_law 259 = .ok (.invokevirtual 19, 3) := by decide +kernel
theorem dL_law_262 : decode cL_law 262 = .ok (.aload_n 2, 1) := by decide +kernel
theorem dL_law_263 : decode cL_law 263 = .ok (.aload_n 0, 1) := by decide +kernel
theorem dL_law_264 : decode cL_law 264 = .ok (.iload 4, 2) := by decide +kernel
theorem dL_law_266 : decode cL_law 266 = .ok (.iconst 1, 1) := by decide +kernel
theorem dL_law_267 : decode cL_law 267 = .ok (.iadd, 1) := by decide +kernel
theorem dL_law_268 : decode cL_law 268 = .ok (.iaload, 1) := by decide +kernel
theorem dL_law_269 : decode cL_law 269 = .ok (.aload_n 0, 1) := by decide +kernel
theorem dL_law_270 : decode cL_law 270 = .ok (.iload 4, 2) := by decide +kernel
theorem dL_law_272 : decode cL_law 272 = .ok (.iconst 2, 1) := by decide +kernel
theorem dL_law_273 : decode cL_law 273 = .ok (.iadd, 1) := by decide +kernel
theorem dL_law_274 : decode cL_law 274 = .ok (.iaload, 1) := by decide +kernel
theorem dL_law_275 : decode cL_law 275 = .ok (.aload_n 0, 1) := by decide +kernel
theorem dL_law_276 : decode cL_law 276 = .ok (.iload 4, 2) := by decide +kernel
theorem dL_law_278 : decode cL_law 278 = .ok (.iconst 3, 1) := by decide +kernel
theorem dL_law_279 : decode cL_law 279 = .ok (.iadd, 1) := by decide +kernel
theorem dL_law_280 : decode cL_law 280 = .ok (.iaload, 1) := by decide +kernel
theorem dL_law_281 : decode cL_law 281 = .ok (.aload_n 0, 1) := by decide +kernel
theorem dL_law_282 : decode cL_law 282 = .ok (.iload 4, 2) := by decide +kernel
theorem dL_law_284 : decode cL_law 284 = .ok (.iconst 4, 1) := by decide +kernel
theorem dL_law_285 : decode cL_law 285 = .ok (.iadd, 1) := by decide +kernel
theorem dL_law_286 : decode cL_law 286 = .ok (.iaload, 1) := by decide +kernel
theorem dL_law_287 : decode cL_law 287 = .ok (.aload_n 0, 1) := by decide +kernel
theorem dL_law_288 : decode cL_law 288 = .ok (.iload 4, 2) := by decide +kernel
theorem dL_law_290 : decode cL_law 290 = .ok (.iconst 5, 1) := by decide +kernel
theorem dL_law_291 : decode cL_law 291 = .ok (.iadd, 1) := by decide +kernel
theorem dL_law_292 : decode cL_law 292 = .ok (.iaload, 1) := by decide +kernel
theorem dL_law_293 : decode cL_law 293 = .ok (.invokevirtual 23, 3) := by decide +kernel
theorem dL_law_296 : decode cL_law 296 = .ok (.if_icmp .eq 1446, 3) := by decide +kernel
theorem dL_law_299 : decode cL_law 299 = .ok (.iconst 0, 1) := by decide +kernel
theorem dL_law_300 : decode cL_law 300 = .ok (.ireturn, 1) := by decide +kernel
theorem dL_law_301 : decode cL_law 301 = .ok (.aload_n 1, 1) := by decide +kernel
theorem dL_law_302 : decode cL_law 302 = .ok (.aload_n 0, 1) := by decide +kernel
theorem dL_law_303 : decode cL_law 303 = .ok (.iload 4, 2) := by decide +kernel
theorem dL_law_305 : decode cL_law 305 = .ok (.iconst 1, 1) := by decide +kernel
theorem dL_law_306 : decode cL_law 306 = .ok (.iadd, 1) := by decide +kernel
theorem dL_law_307 : decode cL_law 307 = .ok (.iaload, 1) := by decide +kernel
theorem dL_law_308 : decode cL_law 308 = .ok (.invokevirtual 24, 3) := by decide +kernel
theorem dL_law_311 : decode cL_law 311 = .ok (.aload_n 2, 1) := by decide +kernel
theorem dL_law_312 : decode cL_law 312 = .ok (.aload_n 0, 1) := by decide +kernel
theorem dL_law_313 : decode cL_law 313 = .ok (.iload 4, 2) := by decide +kernel
theorem dL_law_315 : decode cL_law 315 = .ok (.iconst 1, 1) := by decide +kernel
theorem dL_law_316 : decode cL_law 316 = .ok (.iadd, 1) := by decide +kernel
theorem dL_law_317 : decode cL_law 317 = .ok (.iaload, 1) := by decide +kernel
theorem dL_law_318 : decode cL_law 318 = .ok (.invokevirtual 28, 3) := by decide +kernel
theorem dL_law_321 : decode cL_law 321 = .ok (.if_icmp .eq 1421, 3) := by decide +kernel
theorem dL_law_324 : decode cL_law 324 = .ok (.iconst 0, 1) := by decide +kernel
theorem dL_law_325 : decode cL_law 325 = .ok (.ireturn, 1) := by decide +kernel
theorem dL_law_326 : decode cL_law 326 = .ok (.aload_n 1, 1) := by decide +kernel
theorem dL_law_327 : decode cL_law 327 = .ok (.aload_n 0, 1) := by decide +kernel
theorem dL_law_328 : decode cL_law 328 = .ok (.iload 4, 2) := by decide +kernel
theorem dL_law_330 : decode cL_law 330 = .ok (.iconst 1, 1) := by decide +kernel
theorem dL_law_331 : decode cL_law 331 = .ok (.iadd, 1) := by decide +kernel
theorem dL_law_332 : decode cL_law 332 = .ok (.iaload, 1) := by decide +kernel
theorem dL_law_333 : decode cL_law 333 = .ok (.invokevirtual 29, 3) := by decide +kernel
theorem dL_law_336 : decode cL_law 336 = .ok (.aload_n 2, 1) := by decide +kernel
theorem dL_law_337 : decode cL_law 337 = .ok (.aload_n 0, 1) := by decide +kernel
theorem dL_law_338 : decode cL_law 338 = .ok (.iload 4, 2) := by decide +kernel
theorem dL_law_340 : decode cL_law 340 = .ok (.iconst 1, 1) := by decide +kernel
theorem dL_law_341 : decode cL_law 341 = .ok (.iadd, 1) := by decide +kernel
theorem dL_law_342 : decode cL_law 342 = .ok (.iaload, 1) := by decide +kernel
theorem dL_law_343 : decode cL_law 343 = .ok (.invokevirtual 33, 3) := by decide +kernel
theorem dL_law_346 : decode cL_law 346 = .ok (.if_icmp .eq 1396, 3) := by decide +kernel
theorem dL_law_349 : decode cL_law 349 = .ok (.iconst 0, 1) := by decide +kernel
theorem dL_law_350 : decode cL_law 350 = .ok (.ireturn, 1) := by decide +kernel
theorem dL_law_351 : decode cL_law 351 = .ok (.aload_n 1, 1) := by decide +kernel
theorem dL_law_352 : decode cL_law 352 = .ok (.aload_n 0, 1) := by decide +kernel
theorem dL_law_353 : decode cL_law 353 = .ok (.iload 4, 2) := by decide +kernel
theorem dL_law_355 : decode cL_law 355 = .ok (.iconst 1, 1) := by decide +kernel
theorem dL_law_356 : decode cL_law 356 = .ok (.iadd, 1) := by decide +kernel
theorem dL_law_357 : decode cL_law 357 = .ok (.iaload, 1) := by decide +kernel
theorem dL_law_358 : decode cL_law 358 = .ok (.invokevirtual 34, 3) := by decide +kernel
theorem dL_law_361 : decode cL_law 361 = .ok (.aload_n 2, 1) := by decide +kernel
theorem dL_law_362 : decode cL_law 362 = .ok (.aload_n 0, 1) := by decide +kernel
theorem dL_law_363 : decode cL_law 363 = .ok (.iload 4, 2) := by decide +kernel
theorem dL_law_365 : decode cL_law 365 = .ok (.iconst 1, 1) := by decide +kernel
theorem dL_law_366 : decode cL_law 366 = .ok (.iadd, 1) := by decide +kernel
theorem dL_law_367 : decode cL_law 367 = .ok (.iaload, 1) := by decide +kernel
theorem dL_law_368 : decode cL_law 368 = .ok (.invokevirtual 37, 3) := by decide +kernel
theorem dL_law_371 : decode cL_law 371 = .ok (.if_icmp .eq 1371, 3) := by decide +kernel
theorem dL_law_374 : decode cL_law 374 = .ok (.iconst 0, 1) := by decide +kernel
theorem dL_law_375 : decode cL_law 375 = .ok (.ireturn, 1) := by decide +kernel
theorem dL_law_376 : decode cL_law 376 = .ok (.aload_n 1, 1) := by decide +kernel
theorem dL_law_377 : decode cL_law 377 = .ok (.aload_n 0, 1) := by decide +kernel
theorem dL_law_378 : decode cL_law 378 = .ok (.iload 4, 2) := by decide +kernel
theorem dL_law_380 : decode cL_law 380 = .ok (.iconst 1, 1) := by decide +kernel
theorem dL_law_381 : decode cL_law 381 = .ok (.iadd, 1) := by decide +kernel
theorem dL_law_382 : decode cL_law 382 = .ok (.iaload, 1) := by decide +kernel
theorem dL_law_383 : decode cL_law 383 = .ok (.invokevirtual 38, 3) := by decide +kernel
theorem dL_law_386 : decode cL_law 386 = .ok (.aload_n 2, 1) := by decide +kernel
theorem dL_law_387 : decode cL_law 387 = .ok (.aload_n 0, 1) := by decide +kernel
theorem dL_law_388 : decode cL_law 388 = .ok (.iload 4, 2) := by decide +kernel
theorem dL_law_390 : decode cL_law 390 = .ok (.iconst 1, 1) := by decide +kernel
theorem dL_law_391 : decode cL_law 391 = .ok (.iadd, 1) := by decide +kernel
theorem dL_law_392 : decode cL_law 392 = .ok (.iaload, 1) := by decide +kernel
theorem dL_law_393 : decode cL_law 393 = .ok (.invokevirtual 41, 3) := by decide +kernel
theorem dL_law_396 : decode cL_law 396 = .ok (.if_icmp .eq 1346, 3) := by decide +kernel
theorem dL_law_399 : decode cL_law 399 = .ok (.iconst 0, 1) := by decide +kernel
theorem dL_law_400 : decode cL_law 400 = .ok (.ireturn, 1) := by decide +kernel
theorem dL_law_401 : decode cL_law 401 = .ok (.aload_n 1, 1) := by decide +kernel
theorem dL_law_402 : decode cL_law 402 = .ok (.aload_n 0, 1) := by decide +kernel
theorem dL_law_403 : decode cL_law 403 = .ok (.iload 4, 2) := by decide +kernel
theorem dL_law_405 : decode cL_law 405 = .ok (.iconst 1, 1) := by decide +kernel
theorem dL_law_406 : decode cL_law 406 = .ok (.iadd, 1) := by decide +kernel
theorem dL_law_407 : decode cL_law 407 = .ok (.iaload, 1) := by decide +kernel
theorem dL_law_408 : decode cL_law 408 = .ok (.aload_n 0, 1) := by decide +kernel
theorem dL_law_409 : decode cL_law 409 = .ok (.iload 4, 2) := by decide +kernel
theorem dL_law_411 : decode cL_law 411 = .ok (.iconst 2, 1) := by decide +kernel
theorem dL_law_412 : decode cL_law 412 = .ok (.iadd, 1) := by decide +kernel
theorem dL_law_413 : decode cL_law 413 = .ok (.iaload, 1) := by decide +kernel
theorem dL_law_414 : decode cL_law 414 = .ok (.aload_n 3, 1) := by decide +kernel
theorem dL_law_415 : decode cL_law 415 = .ok (.invokestatic 42, 3) := by decide +kernel
theorem dL_law_418 : decode cL_law 418 = .ok (.istore 5, 2) := by decide +kernel
theorem dL_law_420 : decode cL_law 420 = .ok (.aload_n 2, 1) := by decide +kernel
theorem dL_law_421 : decode cL_law 421 = .ok (.aload_n 0, 1) := by decide +kernel
theorem dL_law_422 : decode cL_law 422 = .ok (.iload 4, 2) := by decide +kernel
theorem dL_law_424 : decode cL_law 424 = .ok (.iconst 1, 1) := by decide +kernel
theorem dL_law_425 : decode cL_law 425 = .ok (.iadd, 1) := by decide +kernel
theorem dL_law_426 : decode cL_law 426 = .ok (.iaload, 1) := by decide +kernel
theorem dL_law_427 : decode cL_law 427 = .ok (.aload_n 0, 1) := by decide +kernel
theorem dL_law_428 : decode cL_law 428 = .ok (.iload 4, 2) := by decide +kernel
theorem dL_law_430 : decode cL_law 430 = .ok (.iconst 2, 1) := by decide +kernel
theorem dL_law_431 : decode cL_law 431 = .ok (.iadd, 1) := by decide +kernel
theorem dL_law_432 : decode cL_law 432 = .ok (.iaload, 1) := by decide +kernel
theorem dL_law_433 : decode cL_law 433 = .ok (.invokevirtual 47, 3) := by decide +kernel
theorem dL_law_436 : decode cL_law 436 = .ok (.istore 6, 2) := by decide +kernel
theorem dL_law_438 : decode cL_law 438 = .ok (.aload_n 2, 1) := by decide +kernel
theorem dL_law_439 : decode cL_law 439 = .ok (.invokevirtual 48, 3) := by decide +kernel
theorem dL_law_442 : decode cL_law 442 = .ok (.iload 5, 2) := by decide +kernel
theorem dL_law_444 : decode cL_law 444 = .ok (.if_icmp .eq 5, 3) := by decide +kernel
theorem dL_law_447 : decode cL_law 447 = .ok (.iconst 0, 1) := by decide +kernel
theorem dL_law_448 : decode cL_law 448 = .ok (.ireturn, 1) := by decide +kernel
theorem dL_law_449 : decode cL_law 449 = .ok (.iload 5, 2) := by decide +kernel
theorem dL_law_451 : decode cL_law 451 = .ok (.ifCond .ne 15, 3) := by decide +kernel
theorem dL_law_454 : decode cL_law 454 = .ok (.aload_n 3, 1) := by decide +kernel
theorem dL_law_455 : decode cL_law 455 = .ok (.iconst 0, 1) := by decide +kernel
theorem dL_law_456 : decode cL_law 456 = .ok (.laload, 1) := by decide +kernel
theorem dL_law_457 : decode cL_law 457 = .ok (.iload 6, 2) := by decide +kernel
theorem dL_law_459 : decode cL_law 459 = .ok (.i2l, 1) := by decide +kernel
theorem dL_law_460 : decode cL_law 460 = .ok (.lcmp, 1) := by decide +kernel
theorem dL_law_461 : decode cL_law 461 = .ok (.ifCond .eq 5, 3) := by decide +kernel
theorem dL_law_464 : decode cL_law 464 = .ok (.iconst 0, 1) := by decide +kernel
theorem dL_law_465 : decode cL_law 465 = .ok (.ireturn, 1) := by decide +kernel
theorem dL_law_466 : decode cL_law 466 = .ok (.goto 1276, 3) := by decide +kernel
theorem dL_law_469 : decode cL_law 469 = .ok (.aload_n 1, 1) := by decide +kernel
theorem dL_law_470 : decode cL_law 470 = .ok (.aload_n 0, 1) := by decide +kernel
theorem dL_law_471 : decode cL_law 471 = .ok (.iload 4, 2) := by decide +kernel
theorem dL_law_473 : decode cL_law 473 = .ok (.iconst 1, 1) := by decide +kernel
theorem dL_law_474 : decode cL_law 474 = .ok (.iadd, 1) := by decide +kernel
theorem dL_law_475 : decode cL_law 475 = .ok (.iaload, 1) := by decide +kernel
theorem dL_law_476 : decode cL_law 476 = .ok (.aload_n 0, 1) := by decide +kernel
theorem dL_law_477 : decode cL_law 477 = .ok (.iload 4, 2) := by decide +kernel
theorem dL_law_479 : decode cL_law 479 = .ok (.iconst 2, 1) := by decide +kernel
theorem dL_law_480 : decode cL_law 480 = .ok (.iadd, 1) := by decide +kernel
theorem dL_law_481 : decode cL_law 481 = .ok (.iaload, 1) := by decide +kernel
theorem dL_law_482 : decode cL_law 482 = .ok (.invokevirtual 52, 3) := by decide +kernel
theorem dL_law_485 : decode cL_law 485 = .ok (.aload_n 2, 1) := by decide +kernel
theorem dL_law_486 : decode cL_law 486 = .ok (.aload_n 0, 1) := by decide +kernel
theorem dL_law_487 : decode cL_law 487 = .ok (.iload 4, 2) := by decide +kernel
theorem dL_law_489 : decode cL_law 489 = .ok (.iconst 1, 1) := by decide +kernel
theorem dL_law_490 : decode cL_law 490 = .ok (.iadd, 1) := by decide +kernel
theorem dL_law_491 : decode cL_law 491 = .ok (.iaload, 1) := by decide +kernel
theorem dL_law_492 : decode cL_law 492 = .ok (.aload_n 0, 1) := by decide +kernel
theorem dL_law_493 : decode cL_law 493 = .ok (.iload 4, 2) := by decide +kernel
theorem dL_law_495 : decode cL_law 495 = .ok (.iconst 2, 1) := by decide +kernel
theorem dL_law_496 : decode cL_law 496 = .ok (.iadd, 1) := by decide +kernel
theorem dL_law_497 : decode cL_law 497 = .ok (.iaload, 1) := by decide +kernel
theorem dL_law_498 : decode cL_law 498 = .ok (.invokevirtual 55, 3) := by decide +kernel
theorem dL_law_501 : decode cL_law 501 = .ok (.if_icmp .eq 1241, 3) := by decide +kernel
theorem dL_law_504 : decode cL_law 504 = .ok (.iconst 0, 1) := by decide +kernel
theorem dL_law_505 : decode cL_law 505 = .ok (.ireturn, 1) := by decide +kernel
theorem dL_law_506 : decode cL_law 506 = .ok (.aload_n 1, 1) := by decide +kernel
theorem dL_law_507 : decode cL_law 507 = .ok (.aload_n 0, 1) := by decide +kernel
theorem dL_law_508 : decode cL_law 508 = .ok (.iload 4, 2) := by decide +kernel
theorem dL_law_510 : decode cL_law 510 = .ok (.iconst 1, 1) := by decide +kernel
theorem dL_law_511 : decode cL_law 511 = .ok (.iadd, 1) := by decide +kernel
theorem dL_law_512 : decode cL_law 512 = .ok (.iaload, 1) := by decide +kernel
theorem dL_law_513 : decode cL_law 513 = .ok (.aload_n 0, 1) := by decide +kernel
theorem dL_law_514 : decode cL_law 514 = .ok (.iload 4, 2) := by decide +kernel
theorem dL_law_516 : decode cL_law 516 = .ok (.iconst 2, 1) := by decide +kernel
theorem dL_law_517 : decode cL_law 517 = .ok (.iadd, 1) := by decide +kernel
theorem dL_law_518 : decode cL_law 518 = .ok (.iaload, 1) := by decide +kernel
theorem dL_law_519 : decode cL_law 519 = .ok (.invokevirtual 56, 3) := by decide +kernel
theorem dL_law_522 : decode cL_law 522 = .ok (.aload_n 2, 1) := by decide +kernel
theorem dL_law_523 : decode cL_law 523 = .ok (.aload_n 0, 1) := by decide +kernel
theorem dL_law_524 : decode cL_law 524 = .ok (.iload 4, 2) := by decide +kernel
theorem dL_law_526 : decode cL_law 526 = .ok (.iconst 1, 1) := by decide +kernel
theorem dL_law_527 : decode cL_law 527 = .ok (.iadd, 1) := by decide +kernel
theorem dL_law_528 : decode cL_law 528 = .ok (.iaload, 1) := by decide +kernel
theorem dL_law_529 : decode cL_law 529 = .ok (.aload_n 0, 1) := by decide +kernel
theorem dL_law_530 : decode cL_law 530 = .ok (.iload 4, 2) := by decide +kernel
theorem dL_law_532 : decode cL_law 532 = .ok (.iconst 2, 1) := by decide +kernel
theorem dL_law_533 : decode cL_law 533 = .ok (.iadd, 1) := by decide +kernel
theorem dL_law_534 : decode cL_law 534 = .ok (.iaload, 1) := by decide +kernel
theorem dL_law_535 : decode cL_law 535 = .ok (.invokevirtual 59, 3) := by decide +kernel
theorem dL_law_538 : decode cL_law 538 = .ok (.if_icmp .eq 1204, 3) := by decide +kernel
theorem dL_law_541 : decode cL_law 541 = .ok (.iconst 0, 1) := by decide +kernel
theorem dL_law_542 : decode cL_law 542 = .ok (.ireturn, 1) := by decide +kernel
theorem dL_law_543 : decode cL_law 543 = .ok (.aload_n 1, 1) := by decide +kernel
theorem dL_law_544 : decode cL_law 544 = .ok (.aload_n 0, 1) := by decide +kernel
theorem dL_law_545 : decode cL_law 545 = .ok (.iload 4, 2) := by decide +kernel
theorem dL_law_547 : decode cL_law 547 = .ok (.iconst 1, 1) := by decide +kernel
theorem dL_law_548 : decode cL_law 548 = .ok (.iadd, 1) := by decide +kernel
theorem dL_law_549 : decode cL_law 549 = .ok (.iaload, 1) := by decide +kernel
theorem dL_law_550 : decode cL_law 550 = .ok (.invokevirtual 60, 3) := by decide +kernel
theorem dL_law_553 : decode cL_law 553 = .ok (.aload_n 2, 1) := by decide +kernel
theorem dL_law_554 : decode cL_law 554 = .ok (.aload_n 0, 1) := by decide +kernel
theorem dL_law_555 : decode cL_law 555 = .ok (.iload 4, 2) := by decide +kernel
theorem dL_law_557 : decode cL_law 557 = .ok (.iconst 1, 1) := by decide +kernel
theorem dL_law_558 : decode cL_law 558 = .ok (.iadd, 1) := by decide +kernel
theorem dL_law_559 : decode cL_law 559 = .ok (.iaload, 1) := by decide +kernel
theorem dL_law_560 : decode cL_law 560 = .ok (.invokevirtual 63, 3) := by decide +kernel
theorem dL_law_563 : decode cL_law 563 = .ok (.if_icmp .eq 1179, 3) := by decide +kernel
theorem dL_law_566 : decode cL_law 566 = .ok (.iconst 0, 1) := by decide +kernel
theorem dL_law_567 : decode cL_law 567 = .ok (.ireturn, 1) := by decide +kernel
theorem dL_law_568 : decode cL_law 568 = .ok (.aload_n 1, 1) := by decide +kernel
theorem dL_law_569 : decode cL_law 569 = .ok (.aload_n 0, 1) := by decide +kernel
theorem dL_law_570 : decode cL_law 570 = .ok (.iload 4, 2) := by decide +kernel
theorem dL_law_572 : decode cL_law 572 = .ok (.iconst 1, 1) := by decide +kernel
theorem dL_law_573 : decode cL_law 573 = .ok (.iadd, 1) := by decide +kernel
theorem dL_law_574 : decode cL_law 574 = .ok (.iaload, 1) := by decide +kernel
theorem dL_law_575 : decode cL_law 575 = .ok (.aload_n 0, 1) := by decide +kernel
theorem dL_law_576 : decode cL_law 576 = .ok (.iload 4, 2) := by decide +kernel
theorem dL_law_578 : decode cL_law 578 = .ok (.iconst 2, 1) := by decide +kernel
theorem dL_law_579 : decode cL_law 579 = .ok (.iadd, 1) := by decide +kernel
theorem dL_law_580 : decode cL_law 580 = .ok (.iaload, 1) := by decide +kernel
theorem dL_law_581 : decode cL_law 581 = .ok (.aload_n 0, 1) := by decide +kernel
theorem dL_law_582 : decode cL_law 582 = .ok (.iload 4, 2) := by decide +kernel
theorem dL_law_584 : decode cL_law 584 = .ok (.iconst 3, 1) := by decide +kernel
theorem dL_law_585 : decode cL_law 585 = .ok (.iadd, 1) := by decide +kernel
theorem dL_law_586 : decode cL_law 586 = .ok (.iaload, 1) := by decide +kernel
theorem dL_law_587 : decode cL_law 587 = .ok (.aload_n 0, 1) := by decide +kernel
theorem dL_law_588 : decode cL_law 588 = .ok (.iload 4, 2) := by decide +kernel
theorem dL_law_590 : decode cL_law 590 = .ok (.iconst 4, 1) := by decide +kernel
theorem dL_law_591 : decode cL_law 591 = .ok (.iadd, 1) := by decide +kernel
theorem dL_law_592 : decode cL_law 592 = .ok (.iaload, 1) := by decide +kernel
theorem dL_law_593 : decode cL_law 593 = .ok (.invokevirtual 64, 3) := by decide +kernel
theorem dL_law_596 : decode cL_law 596 = .ok (.aload_n 2, 1) := by decide +kernel
theorem dL_law_597 : decode cL_law 597 = .ok (.aload_n 0, 1) := by decide +kernel
theorem dL_law_598 : decode cL_law 598 = .ok (.iload 4, 2) := by decide +kernel
theorem dL_law_600 : decode cL_law 600 = .ok (.iconst 1, 1) := by decide +kernel
theorem dL_law_601 : decode cL_law 601 = .ok (.iadd, 1) := by decide +kernel
theorem dL_law_602 : decode cL_law 602 = .ok (.iaload, 1) := by decide +kernel
theorem dL_law_603 : decode cL_law 603 = .ok (.aload_n 0, 1) := by decide +kernel
theorem dL_law_604 : decode cL_law 604 = .ok (.iload 4, 2) := by decide +kernel
theorem dL_law_606 : decode cL_law 606 = .ok (.iconst 2, 1) := by decide +kernel
theorem dL_law_607 : decode cL_law 607 = .ok (.iadd, 1) := by decide +kernel
theorem dL_law_608 : decode cL_law 608 = .ok (.iaload, 1) := by decide +kernel
theorem dL_law_609 : decode cL_law 609 = .ok (.aload_n 0, 1) := by decide +kernel
theorem dL_law_610 : decode cL_law 610 = .ok (.iload 4, 2) := by decide +kernel
theorem dL_law_612 : decode cL_law 612 = .ok (.iconst 3, 1) := by decide +kernel
theorem dL_law_613 : decode cL_law 613 = .ok (.iadd, 1) := by decide +kernel
theorem dL_law_614 : decode cL_law 614 = .ok (.iaload, 1) := by decide +kernel
theorem dL_law_615 : decode cL_law 615 = .ok (.aload_n 0, 1) := by decide +kernel
theorem dL_law_616 : decode cL_law 616 = .ok (.iload 4, 2) := by decide +kernel
theorem dL_law_618 : decode cL_law 618 = .ok (.iconst 4, 1) := by decide +kernel
theorem dL_law_619 : decode cL_law 619 = .ok (.iadd, 1) := by decide +kernel
theorem dL_law_620 : decode cL_law 620 = .ok (.iaload, 1) := by decide +kernel
theorem dL_law_621 : decode cL_law 621 = .ok (.invokevirtual 68, 3) := by decide +kernel
theorem dL_law_624 : decode cL_law 624 = .ok (.if_icmp .eq 1118, 3) := by decide +kernel
theorem dL_law_627 : decode cL_law 627 = .ok (.iconst 0, 1) := by decide +kernel
theorem dL_law_628 : decode cL_law 628 = .ok (.ireturn, 1) := by decide +kernel
theorem dL_law_629 : decode cL_law 629 = .ok (.aload_n 1, 1) := by decide +kernel
theorem dL_law_630 : decode cL_law 630 = .ok (.aload_n 0, 1) := by decide +kernel
theorem dL_law_631 : decode cL_law 631 = .ok (.iload 4, 2) := by decide +kernel
theorem dL_law_633 : decode cL_law 633 = .ok (.iconst 1, 1) := by decide +kernel
theorem dL_law_634 : decode cL_law 634 = .ok (.iadd, 1) := by decide +kernel
theorem dL_law_635 : decode cL_law 635 = .ok (.iaload, 1) := by decide +kernel
theorem dL_law_636 : decode cL_law 636 = .ok (.aload_n 0, 1) := by decide +kernel
theorem dL_law_637 : decode cL_law 637 = .ok (.iload 4, 2) := by decide +kernel
theorem dL_law_639 : decode cL_law 639 = .ok (.iconst 2, 1) := by decide +kernel
theorem dL_law_640 : decode cL_law 640 = .ok (.iadd, 1) := by decide +kernel
theorem dL_law_641 : decode cL_law 641 = .ok (.iaload, 1) := by decide +kernel
theorem dL_law_642 : decode cL_law 642 = .ok (.invokevirtual 69, 3) := by decide +kernel
theorem dL_law_645 : decode cL_law 645 = .ok (.aload_n 2, 1) := by decide +kernel
theorem dL_law_646 : decode cL_law 646 = .ok (.aload_n 0, 1) := by decide +kernel
theorem dL_law_647 : decode cL_law 647 = .ok (.iload 4, 2) := by decide +kernel
theorem dL_law_649 : decode cL_law 649 = .ok (.iconst 1, 1) := by decide +kernel
theorem dL_law_650 : decode cL_law 650 = .ok (.iadd, 1) := by decide +kernel
theorem dL_law_651 : decode cL_law 651 = .ok (.iaload, 1) := by decide +kernel
theorem dL_law_652 : decode cL_law 652 = .ok (.aload_n 0, 1) := by decide +kernel
theorem dL_law_653 : decode cL_law 653 = .ok (.iload 4, 2) := by decide +kernel
theorem dL_law_655 : decode cL_law 655 = .ok (.iconst 2, 1) := by decide +kernel
theorem dL_law_656 : decode cL_law 656 = .ok (.iadd, 1) := by decide +kernel
theorem dL_law_657 : decode cL_law 657 = .ok (.iaload, 1) := by decide +kernel
theorem dL_law_658 : decode cL_law 658 = .ok (.invokevirtual 72, 3) := by decide +kernel
theorem dL_law_661 : decode cL_law 661 = .ok (.if_icmp .eq 1081, 3) := by decide +kernel
theorem dL_law_664 : decode cL_law 664 = .ok (.iconst 0, 1) := by decide +kernel
theorem dL_law_665 : decode cL_law 665 = .ok (.ireturn, 1) := by decide +kernel
theorem dL_law_666 : decode cL_law 666 = .ok (.aload_n 1, 1) := by decide +kernel
theorem dL_law_667 : decode cL_law 667 = .ok (.aload_n 0, 1) := by decide +kernel
theorem dL_law_668 : decode cL_law 668 = .ok (.iload 4, 2) := by decide +kernel
theorem dL_law_670 : decode cL_law 670 = .ok (.iconst 1, 1) := by decide +kernel
theorem dL_law_671 : decode cL_law 671 = .ok (.iadd, 1) := by decide +kernel
theorem dL_law_672 : decode cL_law 672 = .ok (.iaload, 1) := by decide +kernel
theorem dL_law_673 : decode cL_law 673 = .ok (.aload_n 0, 1) := by decide +kernel
theorem dL_law_674 : decode cL_law 674 = .ok (.iload 4, 2) := by decide +kernel
theorem dL_law_676 : decode cL_law 676 = .ok (.iconst 2, 1) := by decide +kernel
theorem dL_law_677 : decode cL_law 677 = .ok (.iadd, 1) := by decide +kernel
theorem dL_law_678 : decode cL_law 678 = .ok (.iaload, 1) := by decide +kernel
theorem dL_law_679 : decode cL_law 679 = .ok (.invokevirtual 73, 3) := by decide +kernel
theorem dL_law_682 : decode cL_law 682 = .ok (.aload_n 2, 1) := by decide +kernel
theorem dL_law_683 : decode cL_law 683 = .ok (.aload_n 0, 1) := by decide +kernel
theorem dL_law_684 : decode cL_law 684 = .ok (.iload 4, 2) := by decide +kernel
theorem dL_law_686 : decode cL_law 686 = .ok (.iconst 1, 1) := by decide +kernel
theorem dL_law_687 : decode cL_law 687 = .ok (.iadd, 1) := by decide +kernel
theorem dL_law_688 : decode cL_law 688 = .ok (.iaload, 1) := by decide +kernel
theorem dL_law_689 : decode cL_law 689 = .ok (.aload_n 0, 1) := by decide +kernel
theorem dL_law_690 : decode cL_law 690 = .ok (.iload 4, 2) := by decide +kernel
theorem dL_law_692 : decode cL_law 692 = .ok (.iconst 2, 1) := by decide +kernel
theorem dL_law_693 : decode cL_law 693 = .ok (.iadd, 1) := by decide +kernel
theorem dL_law_694 : decode cL_law 694 = .ok (.iaload, 1) := by decide +kernel
theorem dL_law_695 : decode cL_law 695 = .ok (.invokevirtual 76, 3) := by decide +kernel
theorem dL_law_698 : decode cL_law 698 = .ok (.if_icmp .eq 1044, 3) := by decide +kernel
theorem dL_law_701 : decode cL_law 701 = .ok (.iconst 0, 1) := by decide +kernel
theorem dL_law_702 : decode cL_law 702 = .ok (.ireturn, 1) := by decide +kernel
theorem dL_law_703 : decode cL_law 703 = .ok (.aload_n 1, 1) := by decide +kernel
theorem dL_law_704 : decode cL_law 704 = .ok (.aload_n 0, 1) := by decide +kernel
theorem dL_law_705 : decode cL_law 705 = .ok (.iload 4, 2) := by decide +kernel
theorem dL_law_707 : decode cL_law 707 = .ok (.iconst 1, 1) := by decide +kernel
theorem dL_law_708 : decode cL_law 708 = .ok (.iadd, 1) := by decide +kernel
theorem dL_law_709 : decode cL_law 709 = .ok (.iaload, 1) := by decide +kernel
theorem dL_law_710 : decode cL_law 710 = .ok (.invokevirtual 77, 3) := by decide +kernel
theorem dL_law_713 : decode cL_law 713 = .ok (.aload_n 2, 1) := by decide +kernel
theorem dL_law_714 : decode cL_law 714 = .ok (.aload_n 0, 1) := by decide +kernel
theorem dL_law_715 : decode cL_law 715 = .ok (.iload 4, 2) := by decide +kernel
theorem dL_law_717 : decode cL_law 717 = .ok (.iconst 1, 1) := by decide +kernel
theorem dL_law_718 : decode cL_law 718 = .ok (.iadd, 1) := by decide +kernel
theorem dL_law_719 : decode cL_law 719 = .ok (.iaload, 1) := by decide +kernel
theorem dL_law_720 : decode cL_law 720 = .ok (.invokevirtual 80, 3) := by decide +kernel
theorem dL_law_723 : decode cL_law 723 = .ok (.if_icmp .eq 1019, 3) := by decide +kernel
theorem dL_law_726 : decode cL_law 726 = .ok (.iconst 0, 1) := by decide +kernel
theorem dL_law_727 : decode cL_law 727 = .ok (.ireturn, 1) := by decide +kernel
theorem dL_law_728 : decode cL_law 728 = .ok (.aload_n 1, 1) := by decide +kernel
theorem dL_law_729 : decode cL_law 729 = .ok (.aload_n 0, 1) := by decide +kernel
theorem dL_law_730 : decode cL_law 730 = .ok (.iload 4, 2) := by decide +kernel
theorem dL_law_732 : decode cL_law 732 = .ok (.iconst 1, 1) := by decide +kernel
theorem dL_law_733 : decode cL_law 733 = .ok (.iadd, 1) := by decide +kernel
theorem dL_law_734 : decode cL_law 734 = .ok (.iaload, 1) := by decide +kernel
theorem dL_law_735 : decode cL_law 735 = .ok (.invokevirtual 81, 3) := by decide +kernel
theorem dL_law_738 : decode cL_law 738 = .ok (.aload_n 2, 1) := by decide +kernel
theorem dL_law_739 : decode cL_law 739 = .ok (.aload_n 0, 1) := by decide +kernel
theorem dL_law_740 : decode cL_law 740 = .ok (.iload 4, 2) := by decide +kernel
theorem dL_law_742 : decode cL_law 742 = .ok (.iconst 1, 1) := by decide +kernel
theorem dL_law_743 : decode cL_law 743 = .ok (.iadd, 1) := by decide +kernel
theorem dL_law_744 : decode cL_law 744 = .ok (.iaload, 1) := by decide +kernel
theorem dL_law_745 : decode cL_law 745 = .ok (.invokevirtual 84, 3) := by decide +kernel
theorem dL_law_748 : decode cL_law 748 = .ok (.if_icmp .eq 994, 3) := by decide +kernel
theorem dL_law_751 : decode cL_law 751 = .ok (.iconst 0, 1) := by decide +kernel
theorem dL_law_752 : decode cL_law 752 = .ok (.ireturn, 1) := by decide +kernel
theorem dL_law_753 : decode cL_law 753 = .ok (.aload_n 1, 1) := by decide +kernel
theorem dL_law_754 : decode cL_law 754 = .ok (.aload_n 0, 1) := by decide +kernel
theorem dL_law_755 : decode cL_law 755 = .ok (.iload 4, 2) := by decide +kernel
theorem dL_law_757 : decode cL_law 757 = .ok (.iconst 1, 1) := by decide +kernel
theorem dL_law_758 : decode cL_law 758 = .ok (.iadd, 1) := by decide +kernel
theorem dL_law_759 : decode cL_law 759 = .ok (.iaload, 1) := by decide +kernel
theorem dL_law_760 : decode cL_law 760 = .ok (.invokevirtual 85, 3) := by decide +kernel
theorem dL_law_763 : decode cL_law 763 = .ok (.aload_n 2, 1) := by decide +kernel
theorem dL_law_764 : decode cL_law 764 = .ok (.aload_n 0, 1) := by decide +kernel
theorem dL_law_765 : decode cL_law 765 = .ok (.iload 4, 2) := by decide +kernel
theorem dL_law_767 : decode cL_law 767 = .ok (.iconst 1, 1) := by decide +kernel
theorem dL_law_768 : decode cL_law 768 = .ok (.iadd, 1) := by decide +kernel
theorem dL_law_769 : decode cL_law 769 = .ok (.iaload, 1) := by decide +kernel
theorem dL_law_770 : decode cL_law 770 = .ok (.invokevirtual 88, 3) := by decide +kernel
theorem dL_law_773 : decode cL_law 773 = .ok (.if_icmp .eq 969, 3) := by decide +kernel
theorem dL_law_776 : decode cL_law 776 = .ok (.iconst 0, 1) := by decide +kernel
theorem dL_law_777 : decode cL_law 777 = .ok (.ireturn, 1) := by decide +kernel
theorem dL_law_778 : decode cL_law 778 = .ok (.aload_n 1, 1) := by decide +kernel
theorem dL_law_779 : decode cL_law 779 = .ok (.aload_n 0, 1) := by decide +kernel
theorem dL_law_780 : decode cL_law 780 = .ok (.iload 4, 2) := by decide +kernel
theorem dL_law_782 : decode cL_law 782 = .ok (.iconst 1, 1) := by decide +kernel
theorem dL_law_783 : decode cL_law 783 = .ok (.iadd, 1) := by decide +kernel
theorem dL_law_784 : decode cL_law 784 = .ok (.iaload, 1) := by decide +kernel
theorem dL_law_785 : decode cL_law 785 = .ok (.invokevirtual 89, 3) := by decide +kernel
theorem dL_law_788 : decode cL_law 788 = .ok (.aload_n 2, 1) := by decide +kernel
theorem dL_law_789 : decode cL_law 789 = .ok (.aload_n 0, 1) := by decide +kernel
theorem dL_law_790 : decode cL_law 790 = .ok (.iload 4, 2) := by decide +kernel
theorem dL_law_792 : decode cL_law 792 = .ok (.iconst 1, 1) := by decide +kernel
theorem dL_law_793 : decode cL_law 793 = .ok (.iadd, 1) := by decide +kernel
theorem dL_law_794 : decode cL_law 794 = .ok (.iaload, 1) := by decide +kernel
theorem dL_law_795 : decode cL_law 795 = .ok (.invokevirtual 92, 3) := by decide +kernel
theorem dL_law_798 : decode cL_law 798 = .ok (.if_icmp .eq 944, 3) := by decide +kernel
theorem dL_law_801 : decode cL_law 801 = .ok (.iconst 0, 1) := by decide +kernel
theorem dL_law_802 : decode cL_law 802 = .ok (.ireturn, 1) := by decide +kernel
theorem dL_law_803 : decode cL_law 803 = .ok (.aload_n 1, 1) := by decide +kernel
theorem dL_law_804 : decode cL_law 804 = .ok (.aload_n 0, 1) := by decide +kernel
theorem dL_law_805 : decode cL_law 805 = .ok (.iload 4, 2) := by decide +kernel
theorem dL_law_807 : decode cL_law 807 = .ok (.iconst 1, 1) := by decide +kernel
theorem dL_law_808 : decode cL_law 808 = .ok (.iadd, 1) := by decide +kernel
theorem dL_law_809 : decode cL_law 809 = .ok (.iaload, 1) := by decide +kernel
theorem dL_law_810 : decode cL_law 810 = .ok (.aload_n 0, 1) := by decide +kernel
theorem dL_law_811 : decode cL_law 811 = .ok (.iload 4, 2) := by decide +kernel
theorem dL_law_813 : decode cL_law 813 = .ok (.iconst 2, 1) := by decide +kernel
theorem dL_law_814 : decode cL_law 814 = .ok (.iadd, 1) := by decide +kernel
theorem dL_law_815 : decode cL_law 815 = .ok (.iaload, 1) := by decide +kernel
theorem dL_law_816 : decode cL_law 816 = .ok (.i2l, 1) := by decide +kernel
theorem dL_law_817 : decode cL_law 817 = .ok (.bipush 32, 2) := by decide +kernel
theorem dL_law_819 : decode cL_law 819 = .ok (.lshl, 1) := by decide +kernel
theorem dL_law_820 : decode cL_law 820 = .ok (.aload_n 0, 1) := by decide +kernel
theorem dL_law_821 : decode cL_law 821 = .ok (.iload 4, 2) := by decide +kernel
theorem dL_law_823 : decode cL_law 823 = .ok (.iconst 3, 1) := by decide +kernel
theorem dL_law_824 : decode cL_law 824 = .ok (.iadd, 1) := by decide +kernel
theorem dL_law_825 : decode cL_law 825 = .ok (.iaload, 1) := by decide +kernel
theorem dL_law_826 : decode cL_law 826 = .ok (.i2l, 1) := by decide +kernel
theorem dL_law_827 : decode cL_law 827 = .ok (.ldc2_w 93, 3) := by decide +kernel
theorem dL_law_830 : decode cL_law 830 = .ok (.land, 1) := by decide +kernel
theorem dL_law_831 : decode cL_law 831 = .ok (.lor, 1) := by decide +kernel
theorem dL_law_832 : decode cL_law 832 = .ok (.invokevirtual 95, 3) := by decide +kernel
theorem dL_law_835 : decode cL_law 835 = .ok (.aload_n 2, 1) := by decide +kernel
theorem dL_law_836 : decode cL_law 836 = .ok (.aload_n 0, 1) := by decide +kernel
theorem dL_law_837 : decode cL_law 837 = .ok (.iload 4, 2) := by decide +kernel
theorem dL_law_839 : decode cL_law 839 = .ok (.iconst 1, 1) := by decide +kernel
theorem dL_law_840 : decode cL_law 840 = .ok (.iadd, 1) := by decide +kernel
theorem dL_law_841 : decode cL_law 841 = .ok (.iaload, 1) := by decide +kernel
theorem dL_law_842 : decode cL_law 842 = .ok (.aload_n 0, 1) := by decide +kernel
theorem dL_law_843 : decode cL_law 843 = .ok (.iload 4, 2) := by decide +kernel
theorem dL_law_845 : decode cL_law 845 = .ok (.iconst 2, 1) := by decide +kernel
theorem dL_law_846 : decode cL_law 846 = .ok (.iadd, 1) := by decide +kernel
theorem dL_law_847 : decode cL_law 847 = .ok (.iaload, 1) := by decide +kernel
theorem dL_law_848 : decode cL_law 848 = .ok (.i2l, 1) := by decide +kernel
theorem dL_law_849 : decode cL_law 849 = .ok (.bipush 32, 2) := by decide +kernel
theorem dL_law_851 : decode cL_law 851 = .ok (.lshl, 1) := by decide +kernel
theorem dL_law_852 : decode cL_law 852 = .ok (.aload_n 0, 1) := by decide +kernel
theorem dL_law_853 : decode cL_law 853 = .ok (.iload 4, 2) := by decide +kernel
theorem dL_law_855 : decode cL_law 855 = .ok (.iconst 3, 1) := by decide +kernel
theorem dL_law_856 : decode cL_law 856 = .ok (.iadd, 1) := by decide +kernel
theorem dL_law_857 : decode cL_law 857 = .ok (.iaload, 1) := by decide +kernel
theorem dL_law_858 : decode cL_law 858 = .ok (.i2l, 1) := by decide +kernel
theorem dL_law_859 : decode cL_law 859 = .ok (.ldc2_w 93, 3) := by decide +kernel
theorem dL_law_862 : decode cL_law 862 = .ok (.land, 1) := by decide +kernel
theorem dL_law_863 : decode cL_law 863 = .ok (.lor, 1) := by decide +kernel
theorem dL_law_864 : decode cL_law 864 = .ok (.invokevirtual 99, 3) := by decide +kernel
theorem dL_law_867 : decode cL_law 867 = .ok (.if_icmp .eq 875, 3) := by decide +kernel
theorem dL_law_870 : decode cL_law 870 = .ok (.iconst 0, 1) := by decide +kernel
theorem dL_law_871 : decode cL_law 871 = .ok (.ireturn, 1) := by decide +kernel
theorem dL_law_872 : decode cL_law 872 = .ok (.aload_n 1, 1) := by decide +kernel
theorem dL_law_873 : decode cL_law 873 = .ok (.aload_n 0, 1) := by decide +kernel
theorem dL_law_874 : decode cL_law 874 = .ok (.iload 4, 2) := by decide +kernel
theorem dL_law_876 : decode cL_law 876 = .ok (.iconst 1, 1) := by decide +kernel
theorem dL_law_877 : decode cL_law 877 = .ok (.iadd, 1) := by decide +kernel
theorem dL_law_878 : decode cL_law 878 = .ok (.iaload, 1) := by decide +kernel
theorem dL_law_879 : decode cL_law 879 = .ok (.invokevirtual 100, 3) := by decide +kernel
theorem dL_law_882 : decode cL_law 882 = .ok (.aload_n 2, 1) := by decide +kernel
theorem dL_law_883 : decode cL_law 883 = .ok (.aload_n 0, 1) := by decide +kernel
theorem dL_law_884 : decode cL_law 884 = .ok (.iload 4, 2) := by decide +kernel
theorem dL_law_886 : decode cL_law 886 = .ok (.iconst 1, 1) := by decide +kernel
theorem dL_law_887 : decode cL_law 887 = .ok (.iadd, 1) := by decide +kernel
theorem dL_law_888 : decode cL_law 888 = .ok (.iaload, 1) := by decide +kernel
theorem dL_law_889 : decode cL_law 889 = .ok (.invokevirtual 103, 3) := by decide +kernel
theorem dL_law_892 : decode cL_law 892 = .ok (.if_icmp .eq 850, 3) := by decide +kernel
theorem dL_law_895 : decode cL_law 895 = .ok (.iconst 0, 1) := by decide +kernel
theorem dL_law_896 : decode cL_law 896 = .ok (.ireturn, 1) := by decide +kernel
theorem dL_law_897 : decode cL_law 897 = .ok (.aload_n 1, 1) := by decide +kernel
theorem dL_law_898 : decode cL_law 898 = .ok (.invokevirtual 104, 3) := by decide +kernel
theorem dL_law_901 : decode cL_law 901 = .ok (.aload_n 2, 1) := by decide +kernel
theorem dL_law_902 : decode cL_law 902 = .ok (.invokevirtual 107, 3) := by decide +kernel
theorem dL_law_905 : decode cL_law 905 = .ok (.if_icmp .eq 837, 3) := by decide +kernel
theorem dL_law_908 : decode cL_law 908 = .ok (.iconst 0, 1) := by decide +kernel
theorem dL_law_909 : decode cL_law 909 = .ok (.ireturn, 1) := by decide +kernel
theorem dL_law_910 : decode cL_law 910 = .ok (.aload_n 1, 1) := by decide +kernel
theorem dL_law_911 : decode cL_law 911 = .ok (.aload_n 0, 1) := by decide +kernel
theorem dL_law_912 : decode cL_law 912 = .ok (.iload 4, 2) := by decide +kernel
theorem dL_law_914 : decode cL_law 914 = .ok (.iconst 1, 1) := by decide +kernel
theorem dL_law_915 : decode cL_law 915 = .ok (.iadd, 1) := by decide +kernel
theorem dL_law_916 : decode cL_law 916 = .ok (.iaload, 1) := by decide +kernel
theorem dL_law_917 : decode cL_law 917 = .ok (.aload_n 0, 1) := by decide +kernel
theorem dL_law_918 : decode cL_law 918 = .ok (.iload 4, 2) := by decide +kernel
theorem dL_law_920 : decode cL_law 920 = .ok (.iconst 2, 1) := by decide +kernel
theorem dL_law_921 : decode cL_law 921 = .ok (.iadd, 1) := by decide +kernel
theorem dL_law_922 : decode cL_law 922 = .ok (.iaload, 1) := by decide +kernel
theorem dL_law_923 : decode cL_law 923 = .ok (.invokevirtual 108, 3) := by decide +kernel
theorem dL_law_926 : decode cL_law 926 = .ok (.aload_n 2, 1) := by decide +kernel
theorem dL_law_927 : decode cL_law 927 = .ok (.aload_n 0, 1) := by decide +kernel
theorem dL_law_928 : decode cL_law 928 = .ok (.iload 4, 2) := by decide +kernel
theorem dL_law_930 : decode cL_law 930 = .ok (.iconst 1, 1) := by decide +kernel
theorem dL_law_931 : decode cL_law 931 = .ok (.iadd, 1) := by decide +kernel
theorem dL_law_932 : decode cL_law 932 = .ok (.iaload, 1) := by decide +kernel
theorem dL_law_933 : decode cL_law 933 = .ok (.aload_n 0, 1) := by decide +kernel
theorem dL_law_934 : decode cL_law 934 = .ok (.iload 4, 2) := by decide +kernel
theorem dL_law_936 : decode cL_law 936 = .ok (.iconst 2, 1) := by decide +kernel
theorem dL_law_937 : decode cL_law 937 = .ok (.iadd, 1) := by decide +kernel
theorem dL_law_938 : decode cL_law 938 = .ok (.iaload, 1) := by decide +kernel
theorem dL_law_939 : decode cL_law 939 = .ok (.invokevirtual 111, 3) := by decide +kernel
theorem dL_law_942 : decode cL_law 942 = .ok (.if_icmp .eq 800, 3) := by decide +kernel
theorem dL_law_945 : decode cL_law 945 = .ok (.iconst 0, 1) := by decide +kernel
theorem dL_law_946 : decode cL_law 946 = .ok (.ireturn, 1) := by decide +kernel
theorem dL_law_947 : decode cL_law 947 = .ok (.aload_n 1, 1) := by decide +kernel
theorem dL_law_948 : decode cL_law 948 = .ok (.aload_n 0, 1) := by decide +kernel
theorem dL_law_949 : decode cL_law 949 = .ok (.iload 4, 2) := by decide +kernel
theorem dL_law_951 : decode cL_law 951 = .ok (.iconst 1, 1) := by decide +kernel
theorem dL_law_952 : decode cL_law 952 = .ok (.iadd, 1) := by decide +kernel
theorem dL_law_953 : decode cL_law 953 = .ok (.iaload, 1) := by decide +kernel
theorem dL_law_954 : decode cL_law 954 = .ok (.aload_n 0, 1) := by decide +kernel
theorem dL_law_955 : decode cL_law 955 = .ok (.iload 4, 2) := by decide +kernel
theorem dL_law_957 : decode cL_law 957 = .ok (.iconst 2, 1) := by decide +kernel
theorem dL_law_958 : decode cL_law 958 = .ok (.iadd, 1) := by decide +kernel
theorem dL_law_959 : decode cL_law 959 = .ok (.iaload, 1) := by decide +kernel
theorem dL_law_960 : decode cL_law 960 = .ok (.aload_n 0, 1) := by decide +kernel
theorem dL_law_961 : decode cL_law 961 = .ok (.iload 4, 2) := by decide +kernel
theorem dL_law_963 : decode cL_law 963 = .ok (.iconst 3, 1) := by decide +kernel
theorem dL_law_964 : decode cL_law 964 = .ok (.iadd, 1) := by decide +kernel
theorem dL_law_965 : decode cL_law 965 = .ok (.iaload, 1) := by decide +kernel
theorem dL_law_966 : decode cL_law 966 = .ok (.invokevirtual 112, 3) := by decide +kernel
theorem dL_law_969 : decode cL_law 969 = .ok (.aload_n 2, 1) := by decide +kernel
theorem dL_law_970 : decode cL_law 970 = .ok (.aload_n 0, 1) := by decide +kernel
theorem dL_law_971 : decode cL_law 971 = .ok (.iload 4, 2) := by decide +kernel
theorem dL_law_973 : decode cL_law 973 = .ok (.iconst 1, 1) := by decide +kernel
theorem dL_law_974 : decode cL_law 974 = .ok (.iadd, 1) := by decide +kernel
theorem dL_law_975 : decode cL_law 975 = .ok (.iaload, 1) := by decide +kernel
theorem dL_law_976 : decode cL_law 976 = .ok (.aload_n 0, 1) := by decide +kernel
theorem dL_law_977 : decode cL_law 977 = .ok (.iload 4, 2) := by decide +kernel
theorem dL_law_979 : decode cL_law 979 = .ok (.iconst 2, 1) := by decide +kernel
theorem dL_law_980 : decode cL_law 980 = .ok (.iadd, 1) := by decide +kernel
theorem dL_law_981 : decode cL_law 981 = .ok (.iaload, 1) := by decide +kernel
theorem dL_law_982 : decode cL_law 982 = .ok (.aload_n 0, 1) := by decide +kernel
theorem dL_law_983 : decode cL_law 983 = .ok (.iload 4, 2) := by decide +kernel
theorem dL_law_985 : decode cL_law 985 = .ok (.iconst 3, 1) := by decide +kernel
theorem dL_law_986 : decode cL_law 986 = .ok (.iadd, 1) := by decide +kernel
theorem dL_law_987 : decode cL_law 987 = .ok (.iaload, 1) := by decide +kernel
theorem dL_law_988 : decode cL_law 988 = .ok (.invokevirtual 116, 3) := by decide +kernel
theorem dL_law_991 : decode cL_law 991 = .ok (.if_icmp .eq 751, 3) := by decide +kernel
theorem dL_law_994 : decode cL_law 994 = .ok (.iconst 0, 1) := by decide +kernel
theorem dL_law_995 : decode cL_law 995 = .ok (.ireturn, 1) := by decide +kernel
theorem dL_law_996 : decode cL_law 996 = .ok (.aload_n 1, 1) := by decide +kernel
theorem dL_law_997 : decode cL_law 997 = .ok (.aload_n 0, 1) := by decide +kernel
theorem dL_law_998 : decode cL_law 998 = .ok (.iload 4, 2) := by decide +kernel
theorem dL_law_1000 : decode cL_law 1000 = .ok (.iconst 1, 1) := by decide +kernel
theorem dL_law_1001 : decode cL_law 1001 = .ok (.iadd, 1) := by decide +kernel
theorem dL_law_1002 : decode cL_law 1002 = .ok (.iaload, 1) := by decide +kernel
theorem dL_law_1003 : decode cL_law 1003 = .ok (.aload_n 0, 1) := by decide +kernel
theorem dL_law_1004 : decode cL_law 1004 = .ok (.iload 4, 2) := by decide +kernel
theorem dL_law_1006 : decode cL_law 1006 = .ok (.iconst 2, 1) := by decide +kernel
theorem dL_law_1007 : decode cL_law 1007 = .ok (.iadd, 1) := by decide +kernel
theorem dL_law_1008 : decode cL_law 1008 = .ok (.iaload, 1) := by decide +kernel
theorem dL_law_1009 : decode cL_law 1009 = .ok (.invokevirtual 117, 3) := by decide +kernel
theorem dL_law_1012 : decode cL_law 1012 = .ok (.aload_n 2, 1) := by decide +kernel
theorem dL_law_1013 : decode cL_law 1013 = .ok (.aload_n 0, 1) := by decide +kernel
theorem dL_law_1014 : decode cL_law 1014 = .ok (.iload 4, 2) := by decide +kernel
theorem dL_law_1016 : decode cL_law 1016 = .ok (.iconst 1, 1) := by decide +kernel
theorem dL_law_1017 : decode cL_law 1017 = .ok (.iadd, 1) := by decide +kernel
theorem dL_law_1018 : decode cL_law 1018 = .ok (.iaload, 1) := by decide +kernel
theorem dL_law_1019 : decode cL_law 1019 = .ok (.aload_n 0, 1) := by decide +kernel
theorem dL_law_1020 : decode cL_law 1020 = .ok (.iload 4, 2) := by decide +kernel
theorem dL_law_1022 : decode cL_law 1022 = .ok (.iconst 2, 1) := by decide +kernel
theorem dL_law_1023 : decode cL_law 1023 = .ok (.iadd, 1) := by decide +kernel
theorem dL_law_1024 : decode cL_law 1024 = .ok (.iaload, 1) := by decide +kernel
theorem dL_law_1025 : decode cL_law 1025 = .ok (.invokevirtual 120, 3) := by decide +kernel
theorem dL_law_1028 : decode cL_law 1028 = .ok (.if_icmp .eq 714, 3) := by decide +kernel
theorem dL_law_1031 : decode cL_law 1031 = .ok (.iconst 0, 1) := by decide +kernel
theorem dL_law_1032 : decode cL_law 1032 = .ok (.ireturn, 1) := by decide +kernel
theorem dL_law_1033 : decode cL_law 1033 = .ok (.aload_n 1, 1) := by decide +kernel
theorem dL_law_1034 : decode cL_law 1034 = .ok (.aload_n 0, 1) := by decide +kernel
theorem dL_law_1035 : decode cL_law 1035 = .ok (.iload 4, 2) := by decide +kernel
theorem dL_law_1037 : decode cL_law 1037 = .ok (.iconst 1, 1) := by decide +kernel
theorem dL_law_1038 : decode cL_law 1038 = .ok (.iadd, 1) := by decide +kernel
theorem dL_law_1039 : decode cL_law 1039 = .ok (.iaload, 1) := by decide +kernel
theorem dL_law_1040 : decode cL_law 1040 = .ok (.aload_n 0, 1) := by decide +kernel
theorem dL_law_1041 : decode cL_law 1041 = .ok (.iload 4, 2) := by decide +kernel
theorem dL_law_1043 : decode cL_law 1043 = .ok (.iconst 2, 1) := by decide +kernel
theorem dL_law_1044 : decode cL_law 1044 = .ok (.iadd, 1) := by decide +kernel
theorem dL_law_1045 : decode cL_law 1045 = .ok (.iaload, 1) := by decide +kernel
theorem dL_law_1046 : decode cL_law 1046 = .ok (.aload_n 0, 1) := by decide +kernel
theorem dL_law_1047 : decode cL_law 1047 = .ok (.iload 4, 2) := by decide +kernel
theorem dL_law_1049 : decode cL_law 1049 = .ok (.iconst 3, 1) := by decide +kernel
theorem dL_law_1050 : decode cL_law 1050 = .ok (.iadd, 1) := by decide +kernel
theorem dL_law_1051 : decode cL_law 1051 = .ok (.iaload, 1) := by decide +kernel
theorem dL_law_1052 : decode cL_law 1052 = .ok (.aload_n 0, 1) := by decide +kernel
theorem dL_law_1053 : decode cL_law 1053 = .ok (.iload 4, 2) := by decide +kernel
theorem dL_law_1055 : decode cL_law 1055 = .ok (.iconst 4, 1) := by decide +kernel
theorem dL_law_1056 : decode cL_law 1056 = .ok (.iadd, 1) := by decide +kernel
theorem dL_law_1057 : decode cL_law 1057 = .ok (.iaload, 1) := by decide +kernel
theorem dL_law_1058 : decode cL_law 1058 = .ok (.invokevirtual 121, 3) := by decide +kernel
theorem dL_law_1061 : decode cL_law 1061 = .ok (.aload_n 2, 1) := by decide +kernel
theorem dL_law_1062 : decode cL_law 1062 = .ok (.aload_n 0, 1) := by decide +kernel
theorem dL_law_1063 : decode cL_law 1063 = .ok (.iload 4, 2) := by decide +kernel
theorem dL_law_1065 : decode cL_law 1065 = .ok (.iconst 1, 1) := by decide +kernel
theorem dL_law_1066 : decode cL_law 1066 = .ok (.iadd, 1) := by decide +kernel
theorem dL_law_1067 : decode cL_law 1067 = .ok (.iaload, 1) := by decide +kernel
theorem dL_law_1068 : decode cL_law 1068 = .ok (.aload_n 0, 1) := by decide +kernel
theorem dL_law_1069 : decode cL_law 1069 = .ok (.iload 4, 2) := by decide +kernel
theorem dL_law_1071 : decode cL_law 1071 = .ok (.iconst 2, 1) := by decide +kernel
theorem dL_law_1072 : decode cL_law 1072 = .ok (.iadd, 1) := by decide +kernel
theorem dL_law_1073 : decode cL_law 1073 = .ok (.iaload, 1) := by decide +kernel
theorem dL_law_1074 : decode cL_law 1074 = .ok (.aload_n 0, 1) := by decide +kernel
theorem dL_law_1075 : decode cL_law 1075 = .ok (.iload 4, 2) := by decide +kernel
theorem dL_law_1077 : decode cL_law 1077 = .ok (.iconst 3, 1) := by decide +kernel
theorem dL_law_1078 : decode cL_law 1078 = .ok (.iadd, 1) := by decide +kernel
theorem dL_law_1079 : decode cL_law 1079 = .ok (.iaload, 1) := by decide +kernel
theorem dL_law_1080 : decode cL_law 1080 = .ok (.aload_n 0, 1) := by decide +kernel
theorem dL_law_1081 : decode cL_law 1081 = .ok (.iload 4, 2) := by decide +kernel
theorem dL_law_1083 : decode cL_law 1083 = .ok (.iconst 4, 1) := by decide +kernel
theorem dL_law_1084 : decode cL_law 1084 = .ok (.iadd, 1) := by decide +kernel
theorem dL_law_1085 : decode cL_law 1085 = .ok (.iaload, 1) := by decide +kernel
theorem dL_law_1086 : decode cL_law 1086 = .ok (.invokevirtual 124, 3) := by decide +kernel
theorem dL_law_1089 : decode cL_law 1089 = .ok (.if_icmp .eq 653, 3) := by decide +kernel
theorem dL_law_1092 : decode cL_law 1092 = .ok (.iconst 0, 1) := by decide +kernel
theorem dL_law_1093 : decode cL_law 1093 = .ok (.ireturn, 1) := by decide +kernel
theorem dL_law_1094 : decode cL_law 1094 = .ok (.aload_n 1, 1) := by decide +kernel
theorem dL_law_1095 : decode cL_law 1095 = .ok (.aload_n 0, 1) := by decide +kernel
theorem dL_law_1096 : decode cL_law 1096 = .ok (.iload 4, 2) := by decide +kernel
theorem dL_law_1098 : decode cL_law 1098 = .ok (.iconst 1, 1) := by decide +kernel
theorem dL_law_1099 : decode cL_law 1099 = .ok (.iadd, 1) := by decide +kernel
theorem dL_law_1100 : decode cL_law 1100 = .ok (.iaload, 1) := by decide +kernel
theorem dL_law_1101 : decode cL_law 1101 = .ok (.invokevirtual 125, 3) := by decide +kernel
theorem dL_law_1104 : decode cL_law 1104 = .ok (.aload_n 2, 1) := by decide +kernel
theorem dL_law_1105 : decode cL_law 1105 = .ok (.aload_n 0, 1) := by decide +kernel
theorem dL_law_1106 : decode cL_law 1106 = .ok (.iload 4, 2) := by decide +kernel
theorem dL_law_1108 : decode cL_law 1108 = .ok (.iconst 1, 1) := by decide +kernel
theorem dL_law_1109 : decode cL_law 1109 = .ok (.iadd, 1) := by decide +kernel
theorem dL_law_1110 : decode cL_law 1110 = .ok (.iaload, 1) := by decide +kernel
theorem dL_law_1111 : decode cL_law 1111 = .ok (.invokevirtual 128, 3) := by decide +kernel
theorem dL_law_1114 : decode cL_law 1114 = .ok (.if_icmp .eq 628, 3) := by decide +kernel
theorem dL_law_1117 : decode cL_law 1117 = .ok (.iconst 0, 1) := by decide +kernel
theorem dL_law_1118 : decode cL_law 1118 = .ok (.ireturn, 1) := by decide +kernel
theorem dL_law_1119 : decode cL_law 1119 = .ok (.aload_n 1, 1) := by decide +kernel
theorem dL_law_1120 : decode cL_law 1120 = .ok (.aload_n 0, 1) := by decide +kernel
theorem dL_law_1121 : decode cL_law 1121 = .ok (.iload 4, 2) := by decide +kernel
theorem dL_law_1123 : decode cL_law 1123 = .ok (.iconst 1, 1) := by decide +kernel
theorem dL_law_1124 : decode cL_law 1124 = .ok (.iadd, 1) := by decide +kernel
theorem dL_law_1125 : decode cL_law 1125 = .ok (.iaload, 1) := by decide +kernel
theorem dL_law_1126 : decode cL_law 1126 = .ok (.aload_n 0, 1) := by decide +kernel
theorem dL_law_1127 : decode cL_law 1127 = .ok (.iload 4, 2) := by decide +kernel
theorem dL_law_1129 : decode cL_law 1129 = .ok (.iconst 2, 1) := by decide +kernel
theorem dL_law_1130 : decode cL_law 1130 = .ok (.iadd, 1) := by decide +kernel
theorem dL_law_1131 : decode cL_law 1131 = .ok (.iaload, 1) := by decide +kernel
theorem dL_law_1132 : decode cL_law 1132 = .ok (.invokevirtual 129, 3) := by decide +kernel
theorem dL_law_1135 : decode cL_law 1135 = .ok (.aload_n 2, 1) := by decide +kernel
theorem dL_law_1136 : decode cL_law 1136 = .ok (.aload_n 0, 1) := by decide +kernel
theorem dL_law_1137 : decode cL_law 1137 = .ok (.iload 4, 2) := by decide +kernel
theorem dL_law_1139 : decode cL_law 1139 = .ok (.iconst 1, 1) := by decide +kernel
theorem dL_law_1140 : decode cL_law 1140 = .ok (.iadd, 1) := by decide +kernel
theorem dL_law_1141 : decode cL_law 1141 = .ok (.iaload, 1) := by decide +kernel
theorem dL_law_1142 : decode cL_law 1142 = .ok (.aload_n 0, 1) := by decide +kernel
theorem dL_law_1143 : decode cL_law 1143 = .ok (.iload 4, 2) := by decide +kernel
theorem dL_law_1145 : decode cL_law 1145 = .ok (.iconst 2, 1) := by decide +kernel
theorem dL_law_1146 : decode cL_law 1146 = .ok (.iadd, 1) := by decide +kernel
theorem dL_law_1147 : decode cL_law 1147 = .ok (.iaload, 1) := by decide +kernel
theorem dL_law_1148 : decode cL_law 1148 = .ok (.invokevirtual 132, 3) := by decide +kernel
theorem dL_law_1151 : decode cL_law 1151 = .ok (.if_icmp .eq 591, 3) := by decide +kernel
theorem dL_law_1154 : decode cL_law 1154 = .ok (.iconst 0, 1) := by decide +kernel
theorem dL_law_1155 : decode cL_law 1155 = .ok (.ireturn, 1) := by decide +kernel
theorem dL_law_1156 : decode cL_law 1156 = .ok (.aload_n 1, 1) := by decide +kernel
theorem dL_law_1157 : decode cL_law 1157 = .ok (.aload_n 0, 1) := by decide +kernel
theorem dL_law_1158 : decode cL_law 1158 = .ok (.iload 4, 2) := by decide +kernel
theorem dL_law_1160 : decode cL_law 1160 = .ok (.iconst 1, 1) := by decide +kernel
theorem dL_law_1161 : decode cL_law 1161 = .ok (.iadd, 1) := by decide +kernel
theorem dL_law_1162 : decode cL_law 1162 = .ok (.iaload, 1) := by decide +kernel
theorem dL_law_1163 : decode cL_law 1163 = .ok (.invokevirtual 133, 3) := by decide +kernel
theorem dL_law_1166 : decode cL_law 1166 = .ok (.aload_n 2, 1) := by decide +kernel
theorem dL_law_1167 : decode cL_law 1167 = .ok (.aload_n 0, 1) := by decide +kernel
theorem dL_law_1168 : decode cL_law 1168 = .ok (.iload 4, 2) := by decide +kernel
theorem dL_law_1170 : decode cL_law 1170 = .ok (.iconst 1, 1) := by decide +kernel
theorem dL_law_1171 : decode cL_law 1171 = .ok (.iadd, 1) := by decide +kernel
theorem dL_law_1172 : decode cL_law 1172 = .ok (.iaload, 1) := by decide +kernel
theorem dL_law_1173 : decode cL_law 1173 = .ok (.invokevirtual 136, 3) := by decide +kernel
theorem dL_law_1176 : decode cL_law 1176 = .ok (.if_icmp .eq 566, 3) := by decide +kernel
theorem dL_law_1179 : decode cL_law 1179 = .ok (.iconst 0, 1) := by decide +kernel
theorem dL_law_1180 : decode cL_law 1180 = .ok (.ireturn, 1) := by decide +kernel
theorem dL_law_1181 : decode cL_law 1181 = .ok (.aload_n 1, 1) := by decide +kernel
theorem dL_law_1182 : decode cL_law 1182 = .ok (.aload_n 0, 1) := by decide +kernel
theorem dL_law_1183 : decode cL_law 1183 = .ok (.iload 4, 2) := by decide +kernel
theorem dL_law_1185 : decode cL_law 1185 = .ok (.iconst 1, 1) := by decide +kernel
theorem dL_law_1186 : decode cL_law 1186 = .ok (.iadd, 1) := by decide +kernel
theorem dL_law_1187 : decode cL_law 1187 = .ok (.iaload, 1) := by decide +kernel
theorem dL_law_1188 : decode cL_law 1188 = .ok (.aload_n 0, 1) := by decide +kernel
theorem dL_law_1189 : decode cL_law 1189 = .ok (.iload 4, 2) := by decide +kernel
theorem dL_law_1191 : decode cL_law 1191 = .ok (.iconst 2, 1) := by decide +kernel
theorem dL_law_1192 : decode cL_law 1192 = .ok (.iadd, 1) := by decide +kernel
theorem dL_law_1193 : decode cL_law 1193 = .ok (.iaload, 1) := by decide +kernel
theorem dL_law_1194 : decode cL_law 1194 = .ok (.aload_n 0, 1) := by decide +kernel
theorem dL_law_1195 : decode cL_law 1195 = .ok (.iload 4, 2) := by decide +kernel
theorem dL_law_1197 : decode cL_law 1197 = .ok (.iconst 3, 1) := by decide +kernel
theorem dL_law_1198 : decode cL_law 1198 = .ok (.iadd, 1) := by decide +kernel
theorem dL_law_1199 : decode cL_law 1199 = .ok (.iaload, 1) := by decide +kernel
theorem dL_law_1200 : decode cL_law 1200 = .ok (.ifCond .eq 7, 3) := by decide +kernel
theorem dL_law_1203 : decode cL_law 1203 = .ok (.iconst 1, 1) := by decide +kernel
theorem dL_law_1204 : decode cL_law 1204 = .ok (.goto 4, 3) := by decide +kernel
theorem dL_law_1207 : decode cL_law 1207 = .ok (.iconst 0, 1) := by decide +kernel
theorem dL_law_1208 : decode cL_law 1208 = .ok (.invokevirtual 137, 3) := by decide +kernel
theorem dL_law_1211 : decode cL_law 1211 = .ok (.aload_n 2, 1) := by decide +kernel
theorem dL_law_1212 : decode cL_law 1212 = .ok (.aload_n 0, 1) := by decide +kernel
theorem dL_law_1213 : decode cL_law 1213 = .ok (.iload 4, 2) := by decide +kernel
theorem dL_law_1215 : decode cL_law 1215 = .ok (.iconst 1, 1) := by decide +kernel
theorem dL_law_1216 : decode cL_law 1216 = .ok (.iadd, 1) := by decide +kernel
theorem dL_law_1217 : decode cL_law 1217 = .ok (.iaload, 1) := by decide +kernel
theorem dL_law_1218 : decode cL_law 1218 = .ok (.aload_n 0, 1) := by decide +kernel
theorem dL_law_1219 : decode cL_law 1219 = .ok (.iload 4, 2) := by decide +kernel
theorem dL_law_1221 : decode cL_law 1221 = .ok (.iconst 2, 1) := by decide +kernel
theorem dL_law_1222 : decode cL_law 1222 = .ok (.iadd, 1) := by decide +kernel
theorem dL_law_1223 : decode cL_law 1223 = .ok (.iaload, 1) := by decide +kernel
theorem dL_law_1224 : decode cL_law 1224 = .ok (.aload_n 0, 1) := by decide +kernel
theorem dL_law_1225 : decode cL_law 1225 = .ok (.iload 4, 2) := by decide +kernel
theorem dL_law_1227 : decode cL_law 1227 = .ok (.iconst 3, 1) := by decide +kernel
theorem dL_law_1228 : decode cL_law 1228 = .ok (.iadd, 1) := by decide +kernel
theorem dL_law_1229 : decode cL_law 1229 = .ok (.iaload, 1) := by decide +kernel
theorem dL_law_1230 : decode cL_law 1230 = .ok (.ifCond .eq 7, 3) := by decide +kernel
theorem dL_law_1233 : decode cL_law 1233 = .ok (.iconst 1, 1) := by decide +kernel
theorem dL_law_1234 : decode cL_law 1234 = .ok (.goto 4, 3) := by decide +kernel
theorem dL_law_1237 : decode cL_law 1237 = .ok (.iconst 0, 1) := by decide +kernel
theorem dL_law_1238 : decode cL_law 1238 = .ok (.invokevirtual 141, 3) := by decide +kernel
theorem dL_law_1241 : decode cL_law 1241 = .ok (.if_icmp .eq 501, 3) := by decide +kernel
theorem dL_law_1244 : decode cL_law 1244 = .ok (.iconst 0, 1) := by decide +kernel
theorem dL_law_1245 : decode cL_law 1245 = .ok (.ireturn, 1) := by decide +kernel
theorem dL_law_1246 : decode cL_law 1246 = .ok (.aload_n 1, 1) := by decide +kernel
theorem dL_law_1247 : decode cL_law 1247 = .ok (.aload_n 0, 1) := by decide +kernel
theorem dL_law_1248 : decode cL_law 1248 = .ok (.iload 4, 2) := by decide +kernel
theorem dL_law_1250 : decode cL_law 1250 = .ok (.iconst 1, 1) := by decide +kernel
theorem dL_law_1251 : decode cL_law 1251 = .ok (.iadd, 1) := by decide +kernel
theorem dL_law_1252 : decode cL_law 1252 = .ok (.iaload, 1) := by decide +kernel
theorem dL_law_1253 : decode cL_law 1253 = .ok (.invokevirtual 142, 3) := by decide +kernel
theorem dL_law_1256 : decode cL_law 1256 = .ok (.aload_n 2, 1) := by decide +kernel
theorem dL_law_1257 : decode cL_law 1257 = .ok (.aload_n 0, 1) := by decide +kernel
theorem dL_law_1258 : decode cL_law 1258 = .ok (.iload 4, 2) := by decide +kernel
theorem dL_law_1260 : decode cL_law 1260 = .ok (.iconst 1, 1) := by decide +kernel
theorem dL_law_1261 : decode cL_law 1261 = .ok (.iadd, 1) := by decide +kernel
theorem dL_law_1262 : decode cL_law 1262 = .ok (.iaload, 1) := by decide +kernel
theorem dL_law_1263 : decode cL_law 1263 = .ok (.invokevirtual 145, 3) := by decide +kernel
theorem dL_law_1266 : decode cL_law 1266 = .ok (.if_icmp .eq 476, 3) := by decide +kernel
theorem dL_law_1269 : decode cL_law 1269 = .ok (.iconst 0, 1) := by decide +kernel
theorem dL_law_1270 : decode cL_law 1270 = .ok (.ireturn, 1) := by decide +kernel
theorem dL_law_1271 : decode cL_law 1271 = .ok (.aload_n 1, 1) := by decide +kernel
theorem dL_law_1272 : decode cL_law 1272 = .ok (.invokevirtual 146, 3) := by decide +kernel
theorem dL_law_1275 : decode cL_law 1275 = .ok (.aload_n 2, 1) := by decide +kernel
theorem dL_law_1276 : decode cL_law 1276 = .ok (.invokevirtual 149, 3) := by decide +kernel
theorem dL_law_1279 : decode cL_law 1279 = .ok (.if_icmp .eq 463, 3) := by decide +kernel
theorem dL_law_1282 : decode cL_law 1282 = .ok (.iconst 0, 1) := by decide +kernel
theorem dL_law_1283 : decode cL_law 1283 = .ok (.ireturn, 1) := by decide +kernel
theorem dL_law_1284 : decode cL_law 1284 = .ok (.aload_n 1, 1) := by decide +kernel
theorem dL_law_1285 : decode cL_law 1285 = .ok (.aload_n 0, 1) := by decide +kernel
theorem dL_law_1286 : decode cL_law 1286 = .ok (.iload 4, 2) := by decide +kernel
theorem dL_law_1288 : decode cL_law 1288 = .ok (.iconst 1, 1) := by decide +kernel
theorem dL_law_1289 : decode cL_law 1289 = .ok (.iadd, 1) := by decide +kernel
theorem dL_law_1290 : decode cL_law 1290 = .ok (.iaload, 1) := by decide +kernel
theorem dL_law_1291 : decode cL_law 1291 = .ok (.aload_n 0, 1) := by decide +kernel
theorem dL_law_1292 : decode cL_law 1292 = .ok (.iload 4, 2) := by decide +kernel
theorem dL_law_1294 : decode cL_law 1294 = .ok (.iconst 2, 1) := by decide +kernel
theorem dL_law_1295 : decode cL_law 1295 = .ok (.iadd, 1) := by decide +kernel
theorem dL_law_1296 : decode cL_law 1296 = .ok (.iaload, 1) := by decide +kernel
theorem dL_law_1297 : decode cL_law 1297 = .ok (.aload_n 0, 1) := by decide +kernel
theorem dL_law_1298 : decode cL_law 1298 = .ok (.iload 4, 2) := by decide +kernel
theorem dL_law_1300 : decode cL_law 1300 = .ok (.iconst 3, 1) := by decide +kernel
theorem dL_law_1301 : decode cL_law 1301 = .ok (.iadd, 1) := by decide +kernel
theorem dL_law_1302 : decode cL_law 1302 = .ok (.iaload, 1) := by decide +kernel
theorem dL_law_1303 : decode cL_law 1303 = .ok (.aload_n 0, 1) := by decide +kernel
theorem dL_law_1304 : decode cL_law 1304 = .ok (.iload 4, 2) := by decide +kernel
theorem dL_law_1306 : decode cL_law 1306 = .ok (.iconst 4, 1) := by decide +kernel
theorem dL_law_1307 : decode cL_law 1307 = .ok (.iadd, 1) := by decide +kernel
theorem dL_law_1308 : decode cL_law 1308 = .ok (.iaload, 1) := by decide +kernel
theorem dL_law_1309 : decode cL_law 1309 = .ok (.aload_n 0, 1) := by decide +kernel
theorem dL_law_1310 : decode cL_law 1310 = .ok (.iload 4, 2) := by decide +kernel
theorem dL_law_1312 : decode cL_law 1312 = .ok (.iconst 5, 1) := by decide +kernel
theorem dL_law_1313 : decode cL_law 1313 = .ok (.iadd, 1) := by decide +kernel
theorem dL_law_1314 : decode cL_law 1314 = .ok (.iaload, 1) := by decide +kernel
theorem dL_law_1315 : decode cL_law 1315 = .ok (.invokevirtual 150, 3) := by decide +kernel
theorem dL_law_1318 : decode cL_law 1318 = .ok (.aload_n 2, 1) := by decide +kernel
theorem dL_law_1319 : decode cL_law 1319 = .ok (.aload_n 0, 1) := by decide +kernel
theorem dL_law_1320 : decode cL_law 1320 = .ok (.iload 4, 2) := by decide +kernel
theorem dL_law_1322 : decode cL_law 1322 = .ok (.iconst 1, 1) := by decide +kernel
theorem dL_law_1323 : decode cL_law 1323 = .ok (.iadd, 1) := by decide +kernel
theorem dL_law_1324 : decode cL_law 1324 = .ok (.iaload, 1) := by decide +kernel
theorem dL_law_1325 : decode cL_law 1325 = .ok (.aload_n 0, 1) := by decide +kernel
theorem dL_law_1326 : decode cL_law 1326 = .ok (.iload 4, 2) := by decide +kernel
theorem dL_law_1328 : decode cL_law 1328 = .ok (.iconst 2, 1) := by decide +kernel
theorem dL_law_1329 : decode cL_law 1329 = .ok (.iadd, 1) := by decide +kernel
theorem dL_law_1330 : decode cL_law 1330 = .ok (.iaload, 1) := by decide +kernel
theorem dL_law_1331 : decode cL_law 1331 = .ok (.aload_n 0, 1) := by decide +kernel
theorem dL_law_1332 : decode cL_law 1332 = .ok (.iload 4, 2) := by decide +kernel
theorem dL_law_1334 : decode cL_law 1334 = .ok (.iconst 3, 1) := by decide +kernel
theorem dL_law_1335 : decode cL_law 1335 = .ok (.iadd, 1) := by decide +kernel
theorem dL_law_1336 : decode cL_law 1336 = .ok (.iaload, 1) := by decide +kernel
theorem dL_law_1337 : decode cL_law 1337 = .ok (.aload_n 0, 1) := by decide +kernel
theorem dL_law_1338 : decode cL_law 1338 = .ok (.iload 4, 2) := by decide +kernel
theorem dL_law_1340 : decode cL_law 1340 = .ok (.iconst 4, 1) := by decide +kernel
theorem dL_law_1341 : decode cL_law 1341 = .ok (.iadd, 1) := by decide +kernel
theorem dL_law_1342 : decode cL_law 1342 = .ok (.iaload, 1) := by decide +kernel
theorem dL_law_1343 : decode cL_law 1343 = .ok (.aload_n 0, 1) := by decide +kernel
theorem dL_law_1344 : decode cL_law 1344 = .ok (.iload 4, 2) := by decide +kernel
theorem dL_law_1346 : decode cL_law 1346 = .ok (.iconst 5, 1) := by decide +kernel
theorem dL_law_1347 : decode cL_law 1347 = .ok (.iadd, 1) := by decide +kernel
theorem dL_law_1348 : decode cL_law 1348 = .ok (.iaload, 1) := by decide +kernel
theorem dL_law_1349 : decode cL_law 1349 = .ok (.invokevirtual 153, 3) := by decide +kernel
theorem dL_law_1352 : decode cL_law 1352 = .ok (.if_icmp .eq 390, 3) := by decide +kernel
theorem dL_law_1355 : decode cL_law 1355 = .ok (.iconst 0, 1) := by decide +kernel
theorem dL_law_1356 : decode cL_law 1356 = .ok (.ireturn, 1) := by decide +kernel
theorem dL_law_1357 : decode cL_law 1357 = .ok (.aload_n 1, 1) := by decide +kernel
theorem dL_law_1358 : decode cL_law 1358 = .ok (.aload_n 0, 1) := by decide +kernel
theorem dL_law_1359 : decode cL_law 1359 = .ok (.iload 4, 2) := by decide +kernel
theorem dL_law_1361 : decode cL_law 1361 = .ok (.iconst 1, 1) := by decide +kernel
theorem dL_law_1362 : decode cL_law 1362 = .ok (.iadd, 1) := by decide +kernel
theorem dL_law_1363 : decode cL_law 1363 = .ok (.iaload, 1) := by decide +kernel
theorem dL_law_1364 : decode cL_law 1364 = .ok (.aload_n 0, 1) := by decide +kernel
theorem dL_law_1365 : decode cL_law 1365 = .ok (.iload 4, 2) := by decide +kernel
theorem dL_law_1367 : decode cL_law 1367 = .ok (.iconst 2, 1) := by decide +kernel
theorem dL_law_1368 : decode cL_law 1368 = .ok (.iadd, 1) := by decide +kernel
theorem dL_law_1369 : decode cL_law 1369 = .ok (.iaload, 1) := by decide +kernel
theorem dL_law_1370 : decode cL_law 1370 = .ok (.aload_n 0, 1) := by decide +kernel
theorem dL_law_1371 : decode cL_law 1371 = .ok (.iload 4, 2) := by decide +kernel
theorem dL_law_1373 : decode cL_law 1373 = .ok (.iconst 3, 1) := by decide +kernel
theorem dL_law_1374 : decode cL_law 1374 = .ok (.iadd, 1) := by decide +kernel
theorem dL_law_1375 : decode cL_law 1375 = .ok (.iaload, 1) := by decide +kernel
theorem dL_law_1376 : decode cL_law 1376 = .ok (.invokevirtual 154, 3) := by decide +kernel
theorem dL_law_1379 : decode cL_law 1379 = .ok (.aload_n 2, 1) := by decide +kernel
theorem dL_law_1380 : decode cL_law 1380 = .ok (.aload_n 0, 1) := by decide +kernel
theorem dL_law_1381 : decode cL_law 1381 = .ok (.iload 4, 2) := by decide +kernel
theorem dL_law_1383 : decode cL_law 1383 = .ok (.iconst 1, 1) := by decide +kernel
theorem dL_law_1384 : decode cL_law 1384 = .ok (.iadd, 1) := by decide +kernel
theorem dL_law_1385 : decode cL_law 1385 = .ok (.iaload, 1) := by decide +kernel
theorem dL_law_1386 : decode cL_law 1386 = .ok (.aload_n 0, 1) := by decide +kernel
theorem dL_law_1387 : decode cL_law 1387 = .ok (.iload 4, 2) := by decide +kernel
theorem dL_law_1389 : decode cL_law 1389 = .ok (.iconst 2, 1) := by decide +kernel
theorem dL_law_1390 : decode cL_law 1390 = .ok (.iadd, 1) := by decide +kernel
theorem dL_law_1391 : decode cL_law 1391 = .ok (.iaload, 1) := by decide +kernel
theorem dL_law_1392 : decode cL_law 1392 = .ok (.aload_n 0, 1) := by decide +kernel
theorem dL_law_1393 : decode cL_law 1393 = .ok (.iload 4, 2) := by decide +kernel
theorem dL_law_1395 : decode cL_law 1395 = .ok (.iconst 3, 1) := by decide +kernel
theorem dL_law_1396 : decode cL_law 1396 = .ok (.iadd, 1) := by decide +kernel
theorem dL_law_1397 : decode cL_law 1397 = .ok (.iaload, 1) := by decide +kernel
theorem dL_law_1398 : decode cL_law 1398 = .ok (.invokevirtual 157, 3) := by decide +kernel
theorem dL_law_1401 : decode cL_law 1401 = .ok (.if_icmp .eq 341, 3) := by decide +kernel
theorem dL_law_1404 : decode cL_law 1404 = .ok (.iconst 0, 1) := by decide +kernel
theorem dL_law_1405 : decode cL_law 1405 = .ok (.ireturn, 1) := by decide +kernel
theorem dL_law_1406 : decode cL_law 1406 = .ok (.aload_n 1, 1) := by decide +kernel
theorem dL_law_1407 : decode cL_law 1407 = .ok (.aload_n 0, 1) := by decide +kernel
theorem dL_law_1408 : decode cL_law 1408 = .ok (.iload 4, 2) := by decide +kernel
theorem dL_law_1410 : decode cL_law 1410 = .ok (.iconst 1, 1) := by decide +kernel
theorem dL_law_1411 : decode cL_law 1411 = .ok (.iadd, 1) := by decide +kernel
theorem dL_law_1412 : decode cL_law 1412 = .ok (.iaload, 1) := by decide +kernel
theorem dL_law_1413 : decode cL_law 1413 = .ok (.invokevirtual 158, 3) := by decide +kernel
theorem dL_law_1416 : decode cL_law 1416 = .ok (.aload_n 2, 1) := by decide +kernel
theorem dL_law_1417 : decode cL_law 1417 = .ok (.aload_n 0, 1) := by decide +kernel
theorem dL_law_1418 : decode cL_law 1418 = .ok (.iload 4, 2) := by decide +kernel
theorem dL_law_1420 : decode cL_law 1420 = .ok (.iconst 1, 1) := by decide +kernel
theorem dL_law_1421 : decode cL_law 1421 = .ok (.iadd, 1) := by decide +kernel
theorem dL_law_1422 : decode cL_law 1422 = .ok (.iaload, 1) := by decide +kernel
theorem dL_law_1423 : decode cL_law 1423 = .ok (.invokevirtual 161, 3) := by decide +kernel
theorem dL_law_1426 : decode cL_law 1426 = .ok (.if_icmp .eq 316, 3) := by decide +kernel
theorem dL_law_1429 : decode cL_law 1429 = .ok (.iconst 0, 1) := by decide +kernel
theorem dL_law_1430 : decode cL_law 1430 = .ok (.ireturn, 1) := by decide +kernel
theorem dL_law_1431 : decode cL_law 1431 = .ok (.aload_n 1, 1) := by decide +kernel
theorem dL_law_1432 : decode cL_law 1432 = .ok (.aload_n 0, 1) := by decide +kernel
theorem dL_law_1433 : decode cL_law 1433 = .ok (.iload 4, 2) := by decide +kernel
theorem dL_law_1435 : decode cL_law 1435 = .ok (.iconst 1, 1) := by decide +kernel
theorem dL_law_1436 : decode cL_law 1436 = .ok (.iadd, 1) := by decide +kernel
theorem dL_law_1437 : decode cL_law 1437 = .ok (.iaload, 1) := by decide +kernel
theorem dL_law_1438 : decode cL_law 1438 = .ok (.aload_n 0, 1) := by decide +kernel
theorem dL_law_1439 : decode cL_law 1439 = .ok (.iload 4, 2) := by decide +kernel
theorem dL_law_1441 : decode cL_law 1441 = .ok (.iconst 2, 1) := by decide +kernel
theorem dL_law_1442 : decode cL_law 1442 = .ok (.iadd, 1) := by decide +kernel
theorem dL_law_1443 : decode cL_law 1443 = .ok (.iaload, 1) := by decide +kernel
theorem dL_law_1444 : decode cL_law 1444 = .ok (.invokevirtual 162, 3) := by decide +kernel
theorem dL_law_1447 : decode cL_law 1447 = .ok (.aload_n 2, 1) := by decide +kernel
theorem dL_law_1448 : decode cL_law 1448 = .ok (.aload_n 0, 1) := by decide +kernel
theorem dL_law_1449 : decode cL_law 1449 = .ok (.iload 4, 2) := by decide +kernel
theorem dL_law_1451 : decode cL_law 1451 = .ok (.iconst 1, 1) := by decide +kernel
theorem dL_law_1452 : decode cL_law 1452 = .ok (.iadd, 1) := by decide +kernel
theorem dL_law_1453 : decode cL_law 1453 = .ok (.iaload, 1) := by decide +kernel
theorem dL_law_1454 : decode cL_law 1454 = .ok (.aload_n 0, 1) := by decide +kernel
theorem dL_law_1455 : decode cL_law 1455 = .ok (.iload 4, 2) := by decide +kernel
theorem dL_law_1457 : decode cL_law 1457 = .ok (.iconst 2, 1) := by decide +kernel
theorem dL_law_1458 : decode cL_law 1458 = .ok (.iadd, 1) := by decide +kernel
theorem dL_law_1459 : decode cL_law 1459 = .ok (.iaload, 1) := by decide +kernel
theorem dL_law_1460 : decode cL_law 1460 = .ok (.invokevirtual 165, 3) := by decide +kernel
theorem dL_law_1463 : decode cL_law 1463 = .ok (.if_icmp .eq 279, 3) := by decide +kernel
theorem dL_law_1466 : decode cL_law 1466 = .ok (.iconst 0, 1) := by decide +kernel
theorem dL_law_1467 : decode cL_law 1467 = .ok (.ireturn, 1) := by decide +kernel
theorem dL_law_1468 : decode cL_law 1468 = .ok (.aload_n 1, 1) := by decide +kernel
theorem dL_law_1469 : decode cL_law 1469 = .ok (.aload_n 0, 1) := by decide +kernel
theorem dL_law_1470 : decode cL_law 1470 = .ok (.iload 4, 2) := by decide +kernel
theorem dL_law_1472 : decode cL_law 1472 = .ok (.iconst 1, 1) := by decide +kernel
theorem dL_law_1473 : decode cL_law 1473 = .ok (.iadd, 1) := by decide +kernel
theorem dL_law_1474 : decode cL_law 1474 = .ok (.iaload, 1) := by decide +kernel
theorem dL_law_1475 : decode cL_law 1475 = .ok (.invokevirtual 166, 3) := by decide +kernel
theorem dL_law_1478 : decode cL_law 1478 = .ok (.aload_n 2, 1) := by decide +kernel
theorem dL_law_1479 : decode cL_law 1479 = .ok (.aload_n 0, 1) := by decide +kernel
theorem dL_law_1480 : decode cL_law 1480 = .ok (.iload 4, 2) := by decide +kernel
theorem dL_law_1482 : decode cL_law 1482 = .ok (.iconst 1, 1) := by decide +kernel
theorem dL_law_1483 : decode cL_law 1483 = .ok (.iadd, 1) := by decide +kernel
theorem dL_law_1484 : decode cL_law 1484 = .ok (.iaload, 1) := by decide +kernel
theorem dL_law_1485 : decode cL_law 1485 = .ok (.invokevirtual 169, 3) := by decide +kernel
theorem dL_law_1488 : decode cL_law 1488 = .ok (.if_icmp .eq 254, 3) := by decide +kernel
theorem dL_law_1491 : decode cL_law 1491 = .ok (.iconst 0, 1) := by decide +kernel
theorem dL_law_1492 : decode cL_law 1492 = .ok (.ireturn, 1) := by decide +kernel
theorem dL_law_1493 : decode cL_law 1493 = .ok (.aload_n 1, 1) := by decide +kernel
theorem dL_law_1494 : decode cL_law 1494 = .ok (.aload_n 0, 1) := by decide +kernel
theorem dL_law_1495 : decode cL_law 1495 = .ok (.iload 4, 2) := by decide +kernel
theorem dL_law_1497 : decode cL_law 1497 = .ok (.iconst 1, 1) := by decide +kernel
theorem dL_law_1498 : decode cL_law 1498 = .ok (.iadd, 1) := by decide +kernel
theorem dL_law_1499 : decode cL_law 1499 = .ok (.iaload, 1) := by decide +kernel
theorem dL_law_1500 : decode cL_law 1500 = .ok (.aload_n 0, 1) := by decide +kernel
theorem dL_law_1501 : decode cL_law 1501 = .ok (.iload 4, 2) := by decide +kernel
theorem dL_law_1503 : decode cL_law 1503 = .ok (.iconst 2, 1) := by decide +kernel
theorem dL_law_1504 : decode cL_law 1504 = .ok (.iadd, 1) := by decide +kernel
theorem dL_law_1505 : decode cL_law 1505 = .ok (.iaload, 1) := by decide +kernel
theorem dL_law_1506 : decode cL_law 1506 = .ok (.aload_n 0, 1) := by decide +kernel
theorem dL_law_1507 : decode cL_law 1507 = .ok (.iload 4, 2) := by decide +kernel
theorem dL_law_1509 : decode cL_law 1509 = .ok (.iconst 3, 1) := by decide +kernel
theorem dL_law_1510 : decode cL_law 1510 = .ok (.iadd, 1) := by decide +kernel
theorem dL_law_1511 : decode cL_law 1511 = .ok (.iaload, 1) := by decide +kernel
theorem dL_law_1512 : decode cL_law 1512 = .ok (.aload_n 0, 1) := by decide +kernel
theorem dL_law_1513 : decode cL_law 1513 = .ok (.iload 4, 2) := by decide +kernel
theorem dL_law_1515 : decode cL_law 1515 = .ok (.iconst 4, 1) := by decide +kernel
theorem dL_law_1516 : decode cL_law 1516 = .ok (.iadd, 1) := by decide +kernel
theorem dL_law_1517 : decode cL_law 1517 = .ok (.iaload, 1) := by decide +kernel
theorem dL_law_1518 : decode cL_law 1518 = .ok (.aload_n 0, 1) := by decide +kernel
theorem dL_law_1519 : decode cL_law 1519 = .ok (.iload 4, 2) := by decide +kernel
theorem dL_law_1521 : decode cL_law 1521 = .ok (.iconst 5, 1) := by decide +kernel
theorem dL_law_1522 : decode cL_law 1522 = .ok (.iadd, 1) := by decide +kernel
theorem dL_law_1523 : decode cL_law 1523 = .ok (.iaload, 1) := by decide +kernel
theorem dL_law_1524 : decode cL_law 1524 = .ok (.invokevirtual 170, 3) := by decide +kernel
theorem dL_law_1527 : decode cL_law 1527 = .ok (.aload_n 2, 1) := by decide +kernel
theorem dL_law_1528 : decode cL_law 1528 = .ok (.aload_n 0, 1) := by decide +kernel
theorem dL_law_1529 : decode cL_law 1529 = .ok (.iload 4, 2) := by decide +kernel
theorem dL_law_1531 : decode cL_law 1531 = .ok (.iconst 1, 1) := by decide +kernel
theorem dL_law_1532 : decode cL_law 1532 = .ok (.iadd, 1) := by decide +kernel
theorem dL_law_1533 : decode cL_law 1533 = .ok (.iaload, 1) := by decide +kernel
theorem dL_law_1534 : decode cL_law 1534 = .ok (.aload_n 0, 1) := by decide +kernel
theorem dL_law_1535 : decode cL_law 1535 = .ok (.iload 4, 2) := by decide +kernel
theorem dL_law_1537 : decode cL_law 1537 = .ok (.iconst 2, 1) := by decide +kernel
theorem dL_law_1538 : decode cL_law 1538 = .ok (.iadd, 1) := by decide +kernel
theorem dL_law_1539 : decode cL_law 1539 = .ok (.iaload, 1) := by decide +kernel
theorem dL_law_1540 : decode cL_law 1540 = .ok (.aload_n 0, 1) := by decide +kernel
theorem dL_law_1541 : decode cL_law 1541 = .ok (.iload 4, 2) := by decide +kernel
theorem dL_law_1543 : decode cL_law 1543 = .ok (.iconst 3, 1) := by decide +kernel
theorem dL_law_1544 : decode cL_law 1544 = .ok (.iadd, 1) := by decide +kernel
theorem dL_law_1545 : decode cL_law 1545 = .ok (.iaload, 1) := by decide +kernel
theorem dL_law_1546 : decode cL_law 1546 = .ok (.aload_n 0, 1) := by decide +kernel
theorem dL_law_1547 : decode cL_law 1547 = .ok (.iload 4, 2) := by decide +kernel
theorem dL_law_1549 : decode cL_law 1549 = .ok (.iconst 4, 1) := by decide +kernel
theorem dL_law_1550 : decode cL_law 1550 = .ok (.iadd, 1) := by decide +kernel
theorem dL_law_1551 : decode cL_law 1551 = .ok (.iaload, 1) := by decide +kernel
theorem dL_law_1552 : decode cL_law 1552 = .ok (.aload_n 0, 1) := by decide +kernel
theorem dL_law_1553 : decode cL_law 1553 = .ok (.iload 4, 2) := by decide +kernel
theorem dL_law_1555 : decode cL_law 1555 = .ok (.iconst 5, 1) := by decide +kernel
theorem dL_law_1556 : decode cL_law 1556 = .ok (.iadd, 1) := by decide +kernel
theorem dL_law_1557 : decode cL_law 1557 = .ok (.iaload, 1) := by decide +kernel
theorem dL_law_1558 : decode cL_law 1558 = .ok (.invokevirtual 173, 3) := by decide +kernel
theorem dL_law_1561 : decode cL_law 1561 = .ok (.if_icmp .eq 181, 3) := by decide +kernel
theorem dL_law_1564 : decode cL_law 1564 = .ok (.iconst 0, 1) := by decide +kernel
theorem dL_law_1565 : decode cL_law 1565 = .ok (.ireturn, 1) := by decide +kernel
theorem dL_law_1566 : decode cL_law 1566 = .ok (.aload_n 1, 1) := by decide +kernel
theorem dL_law_1567 : decode cL_law 1567 = .ok (.aload_n 0, 1) := by decide +kernel
theorem dL_law_1568 : decode cL_law 1568 = .ok (.iload 4, 2) := by decide +kernel
theorem dL_law_1570 : decode cL_law 1570 = .ok (.iconst 1, 1) := by decide +kernel
theorem dL_law_1571 : decode cL_law 1571 = .ok (.iadd, 1) := by decide +kernel
theorem dL_law_1572 : decode cL_law 1572 = .ok (.iaload, 1) := by decide +kernel
theorem dL_law_1573 : decode cL_law 1573 = .ok (.aload_n 0, 1) := by decide +kernel
theorem dL_law_1574 : decode cL_law 1574 = .ok (.iload 4, 2) := by decide +kernel
theorem dL_law_1576 : decode cL_law 1576 = .ok (.iconst 2, 1) := by decide +kernel
theorem dL_law_1577 : decode cL_law 1577 = .ok (.iadd, 1) := by decide +kernel
theorem dL_law_1578 : decode cL_law 1578 = .ok (.iaload, 1) := by decide +kernel
theorem dL_law_1579 : decode cL_law 1579 = .ok (.invokevirtual 174, 3) := by decide +kernel
theorem dL_law_1582 : decode cL_law 1582 = .ok (.aload_n 2, 1) := by decide +kernel
theorem dL_law_1583 : decode cL_law 1583 = .ok (.aload_n 0, 1) := by decide +kernel
theorem dL_law_1584 : decode cL_law 1584 = .ok (.iload 4, 2) := by decide +kernel
theorem dL_law_1586 : decode cL_law 1586 = .ok (.iconst 1, 1) := by decide +kernel
theorem dL_law_1587 : decode cL_law 1587 = .ok (.iadd, 1) := by decide +kernel
theorem dL_law_1588 : decode cL_law 1588 = .ok (.iaload, 1) := by decide +kernel
theorem dL_law_1589 : decode cL_law 1589 = .ok (.aload_n 0, 1) := by decide +kernel
theorem dL_law_1590 : decode cL_law 1590 = .ok (.iload 4, 2) := by decide +kernel
theorem dL_law_1592 : decode cL_law 1592 = .ok (.iconst 2, 1) := by decide +kernel
theorem dL_law_1593 : decode cL_law 1593 = .ok (.iadd, 1) := by decide +kernel
theorem dL_law_1594 : decode cL_law 1594 = .ok (.iaload, 1) := by decide +kernel
theorem dL_law_1595 : decode cL_law 1595 = .ok (.invokevirtual 177, 3) := by decide +kernel
theorem dL_law_1598 : decode cL_law 1598 = .ok (.if_icmp .eq 144, 3) := by decide +kernel
theorem dL_law_1601 : decode cL_law 1601 = .ok (.iconst 0, 1) := by decide +kernel
theorem dL_law_1602 : decode cL_law 1602 = .ok (.ireturn, 1) := by decide +kernel
theorem dL_law_1603 : decode cL_law 1603 = .ok (.aload_n 1, 1) := by decide +kernel
theorem dL_law_1604 : decode cL_law 1604 = .ok (.invokevirtual 178, 3) := by decide +kernel
theorem dL_law_1607 : decode cL_law 1607 = .ok (.aload_n 2, 1) := by decide +kernel
theorem dL_law_1608 : decode cL_law 1608 = .ok (.invokevirtual 181, 3) := by decide +kernel
theorem dL_law_1611 : decode cL_law 1611 = .ok (.if_icmp .eq 131, 3) := by decide +kernel
theorem dL_law_1614 : decode cL_law 1614 = .ok (.iconst 0, 1) := by decide +kernel
theorem dL_law_1615 : decode cL_law 1615 = .ok (.ireturn, 1) := by decide +kernel
theorem dL_law_1616 : decode cL_law 1616 = .ok (.aload_n 1, 1) := by decide +kernel
theorem dL_law_1617 : decode cL_law 1617 = .ok (.aload_n 0, 1) := by decide +kernel
theorem dL_law_1618 : decode cL_law 1618 = .ok (.iload 4, 2) := by decide +kernel
theorem dL_law_1620 : decode cL_law 1620 = .ok (.iconst 1, 1) := by decide +kernel
theorem dL_law_1621 : decode cL_law 1621 = .ok (.iadd, 1) := by decide +kernel
theorem dL_law_1622 : decode cL_law 1622 = .ok (.iaload, 1) := by decide +kernel
theorem dL_law_1623 : decode cL_law 1623 = .ok (.invokevirtual 182, 3) := by decide +kernel
theorem dL_law_1626 : decode cL_law 1626 = .ok (.aload_n 2, 1) := by decide +kernel
theorem dL_law_1627 : decode cL_law 1627 = .ok (.aload_n 0, 1) := by decide +kernel
theorem dL_law_1628 : decode cL_law 1628 = .ok (.iload 4, 2) := by decide +kernel
theorem dL_law_1630 : decode cL_law 1630 = .ok (.iconst 1, 1) := by decide +kernel
theorem dL_law_1631 : decode cL_law 1631 = .ok (.iadd, 1) := by decide +kernel
theorem dL_law_1632 : decode cL_law 1632 = .ok (.iaload, 1) := by decide +kernel
theorem dL_law_1633 : decode cL_law 1633 = .ok (.invokevirtual 185, 3) := by decide +kernel
theorem dL_law_1636 : decode cL_law 1636 = .ok (.if_icmp .eq 106, 3) := by decide +kernel
theorem dL_law_1639 : decode cL_law 1639 = .ok (.iconst 0, 1) := by decide +kernel
theorem dL_law_1640 : decode cL_law 1640 = .ok (.ireturn, 1) := by decide +kernel
theorem dL_law_1641 : decode cL_law 1641 = .ok (.aload_n 1, 1) := by decide +kernel
theorem dL_law_1642 : decode cL_law 1642 = .ok (.aload_n 0, 1) := by decide +kernel
theorem dL_law_1643 : decode cL_law 1643 = .ok (.iload 4, 2) := by decide +kernel
theorem dL_law_1645 : decode cL_law 1645 = .ok (.iconst 1, 1) := by decide +kernel
theorem dL_law_1646 : decode cL_law 1646 = .ok (.iadd, 1) := by decide +kernel
theorem dL_law_1647 : decode cL_law 1647 = .ok (.iaload, 1) := by decide +kernel
theorem dL_law_1648 : decode cL_law 1648 = .ok (.invokevirtual 186, 3) := by decide +kernel
theorem dL_law_1651 : decode cL_law 1651 = .ok (.aload_n 2, 1) := by decide +kernel
theorem dL_law_1652 : decode cL_law 1652 = .ok (.aload_n 0, 1) := by decide +kernel
theorem dL_law_1653 : decode cL_law 1653 = .ok (.iload 4, 2) := by decide +kernel
theorem dL_law_1655 : decode cL_law 1655 = .ok (.iconst 1, 1) := by decide +kernel
theorem dL_law_1656 : decode cL_law 1656 = .ok (.iadd, 1) := by decide +kernel
theorem dL_law_1657 : decode cL_law 1657 = .ok (.iaload, 1) := by decide +kernel
theorem dL_law_1658 : decode cL_law 1658 = .ok (.invokevirtual 189, 3) := by decide +kernel
theorem dL_law_1661 : decode cL_law 1661 = .ok (.if_icmp .eq 81, 3) := by decide +kernel
theorem dL_law_1664 : decode cL_law 1664 = .ok (.iconst 0, 1) := by decide +kernel
theorem dL_law_1665 : decode cL_law 1665 = .ok (.ireturn, 1) := by decide +kernel
theorem dL_law_1666 : decode cL_law 1666 = .ok (.aload_n 1, 1) := by decide +kernel
theorem dL_law_1667 : decode cL_law 1667 = .ok (.aload_n 0, 1) := by decide +kernel
theorem dL_law_1668 : decode cL_law 1668 = .ok (.iload 4, 2) := by decide +kernel
theorem dL_law_1670 : decode cL_law 1670 = .ok (.iconst 1, 1) := by decide +kernel
theorem dL_law_1671 : decode cL_law 1671 = .ok (.iadd, 1) := by decide +kernel
theorem dL_law_1672 : decode cL_law 1672 = .ok (.iaload, 1) := by decide +kernel
theorem dL_law_1673 : decode cL_law 1673 = .ok (.invokevirtual 190, 3) := by decide +kernel
theorem dL_law_1676 : decode cL_law 1676 = .ok (.aload_n 2, 1) := by decide +kernel
theorem dL_law_1677 : decode cL_law 1677 = .ok (.aload_n 0, 1) := by decide +kernel
theorem dL_law_1678 : decode cL_law 1678 = .ok (.iload 4, 2) := by decide +kernel
theorem dL_law_1680 : decode cL_law 1680 = .ok (.iconst 1, 1) := by decide +kernel
theorem dL_law_1681 : decode cL_law 1681 = .ok (.iadd, 1) := by decide +kernel
theorem dL_law_1682 : decode cL_law 1682 = .ok (.iaload, 1) := by decide +kernel
theorem dL_law_1683 : decode cL_law 1683 = .ok (.invokevirtual 193, 3) := by decide +kernel
theorem dL_law_1686 : decode cL_law 1686 = .ok (.if_icmp .eq 56, 3) := by decide +kernel
theorem dL_law_1689 : decode cL_law 1689 = .ok (.iconst 0, 1) := by decide +kernel
theorem dL_law_1690 : decode cL_law 1690 = .ok (.ireturn, 1) := by decide +kernel
theorem dL_law_1691 : decode cL_law 1691 = .ok (.aload_n 1, 1) := by decide +kernel
theorem dL_law_1692 : decode cL_law 1692 = .ok (.invokevirtual 194, 3) := by decide +kernel
theorem dL_law_1695 : decode cL_law 1695 = .ok (.aload_n 2, 1) := by decide +kernel
theorem dL_law_1696 : decode cL_law 1696 = .ok (.invokevirtual 197, 3) := by decide +kernel
theorem dL_law_1699 : decode cL_law 1699 = .ok (.if_icmp .eq 43, 3) := by decide +kernel
theorem dL_law_1702 : decode cL_law 1702 = .ok (.iconst 0, 1) := by decide +kernel
theorem dL_law_1703 : decode cL_law 1703 = .ok (.ireturn, 1) := by decide +kernel
theorem dL_law_1704 : decode cL_law 1704 = .ok (.aload_n 1, 1) := by decide +kernel
theorem dL_law_1705 : decode cL_law 1705 = .ok (.invokevirtual 198, 3) := by decide +kernel
theorem dL_law_1708 : decode cL_law 1708 = .ok (.aload_n 2, 1) := by decide +kernel
theorem dL_law_1709 : decode cL_law 1709 = .ok (.invokevirtual 201, 3) := by decide +kernel
theorem dL_law_1712 : decode cL_law 1712 = .ok (.if_icmp .eq 30, 3) := by decide +kernel
theorem dL_law_1715 : decode cL_law 1715 = .ok (.iconst 0, 1) := by decide +kernel
theorem dL_law_1716 : decode cL_law 1716 = .ok (.ireturn, 1) := by decide +kernel
theorem dL_law_1717 : decode cL_law 1717 = .ok (.aload_n 1, 1) := by decide +kernel
theorem dL_law_1718 : decode cL_law 1718 = .ok (.aload_n 0, 1) := by decide +kernel
theorem dL_law_1719 : decode cL_law 1719 = .ok (.iload 4, 2) := by decide +kernel
theorem dL_law_1721 : decode cL_law 1721 = .ok (.iconst 1, 1) := by decide +kernel
theorem dL_law_1722 : decode cL_law 1722 = .ok (.iadd, 1) := by decide +kernel
theorem dL_law_1723 : decode cL_law 1723 = .ok (.iaload, 1) := by decide +kernel
theorem dL_law_1724 : decode cL_law 1724 = .ok (.invokevirtual 202, 3) := by decide +kernel
theorem dL_law_1727 : decode cL_law 1727 = .ok (.aload_n 2, 1) := by decide +kernel
theorem dL_law_1728 : decode cL_law 1728 = .ok (.aload_n 0, 1) := by decide +kernel
theorem dL_law_1729 : decode cL_law 1729 = .ok (.iload 4, 2) := by decide +kernel
theorem dL_law_1731 : decode cL_law 1731 = .ok (.iconst 1, 1) := by decide +kernel
theorem dL_law_1732 : decode cL_law 1732 = .ok (.iadd, 1) := by decide +kernel
theorem dL_law_1733 : decode cL_law 1733 = .ok (.iaload, 1) := by decide +kernel
theorem dL_law_1734 : decode cL_law 1734 = .ok (.invokevirtual 205, 3) := by decide +kernel
theorem dL_law_1737 : decode cL_law 1737 = .ok (.if_icmp .eq 5, 3) := by decide +kernel
theorem dL_law_1740 : decode cL_law 1740 = .ok (.iconst 0, 1) := by decide +kernel
theorem dL_law_1741 : decode cL_law 1741 = .ok (.ireturn, 1) := by decide +kernel
theorem dL_law_1742 : decode cL_law 1742 = .ok (.iinc 4 6, 3) := by decide +kernel
theorem dL_law_1745 : decode cL_law 1745 = .ok (.goto (-1722), 3) := by decide +kernel
theorem dL_law_1748 : decode cL_law 1748 = .ok (.iconst 1, 1) := by decide +kernel
theorem dL_law_1749 : decode cL_law 1749 = .ok (.ireturn, 1) := by decide +kernel
