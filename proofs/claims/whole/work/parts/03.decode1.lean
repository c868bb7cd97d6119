theorem dX6_isTorn_18 : decode cX6_isTorn 18 = .ok (.invokevirtual 72, 3) := by decide +kernel
theorem dX6_isTorn_21 : decode cX6_isTorn 21 = .ok (.aload_n 0, 1) := by decide +kernel
theorem dX6_isTorn_22 : decode cX6_isTorn 22 = .ok (.getfield 15, 3) := by decide +kernel
theorem dX6_isTorn_25 : decode cX6_isTorn 25 = .ok (.iload_n 1, 1) := by decide +kernel
theorem dX6_isTorn_26 : decode cX6_isTorn 26 = .ok (.invokevirtual 72, 3) := by decide +kernel
theorem dX6_isTorn_29 : decode cX6_isTorn 29 = .ok (.if_icmp .ne 24, 3) := by decide +kernel
theorem dX6_isTorn_32 : decode cX6_isTorn 32 = .ok (.aload_n 0, 1) := by decide +kernel
theorem dX6_isTorn_33 : decode cX6_isTorn 33 = .ok (.getfield 15, 3) := by decide +kernel
theorem dX6_isTorn_36 : decode cX6_isTorn 36 = .ok (.iload_n 2, 1) := by decide +kernel
theorem dX6_isTorn_37 : decode cX6_isTorn 37 = .ok (.invokevirtual 78, 3) := by decide +kernel
theorem dX6_isTorn_40 : decode cX6_isTorn 40 = .ok (.aload_n 0, 1) := by decide +kernel
theorem dX6_isTorn_41 : decode cX6_isTorn 41 = .ok (.getfield 15, 3) := by decide +kernel
theorem dX6_isTorn_44 : decode cX6_isTorn 44 = .ok (.iload_n 1, 1) := by decide +kernel
theorem dX6_isTorn_45 : decode cX6_isTorn 45 = .ok (.invokevirtual 78, 3) := by decide +kernel
theorem dX6_isTorn_48 : decode cX6_isTorn 48 = .ok (.if_icmp .eq 5, 3) := by decide +kernel
theorem dX6_isTorn_51 : decode cX6_isTorn 51 = .ok (.iconst 1, 1) := by decide +kernel
theorem dX6_isTorn_52 : decode cX6_isTorn 52 = .ok (.ireturn, 1) := by decide +kernel
theorem dX6_isTorn_53 : decode cX6_isTorn 53 = .ok (.iinc 2 1, 3) := by decide +kernel
theorem dX6_isTorn_56 : decode cX6_isTorn 56 = .ok (.goto (-54), 3) := by decide +kernel
theorem dX6_isTorn_59 : decode cX6_isTorn 59 = .ok (.iconst 0, 1) := by decide +kernel
theorem dX6_isTorn_60 : decode cX6_isTorn 60 = .ok (.ireturn, 1) := by decide +kernel
theorem dX6_isTooRare_0 : decode cX6_isTooRare 0 = .ok (.iconst 0, 1) := by decide +kernel
theorem dX6_isTooRare_1 : decode cX6_isTooRare 1 = .ok (.istore_n 2, 1) := by decide +kernel
theorem dX6_isTooRare_2 : decode cX6_isTooRare 2 = .ok (.iconst 0, 1) := by decide +kernel
theorem dX6_isTooRare_3 : decode cX6_isTooRare 3 = .ok (.istore_n 3, 1) := by decide +kernel
theorem dX6_isTooRare_4 : decode cX6_isTooRare 4 = .ok (.iload_n 3, 1) := by decide +kernel
theorem dX6_isTooRare_5 : decode cX6_isTooRare 5 = .ok (.aload_n 0, 1) := by decide +kernel
theorem dX6_isTooRare_6 : decode cX6_isTooRare 6 = .ok (.getfield 15, 3) := by decide +kernel
theorem dX6_isTooRare_9 : decode cX6_isTooRare 9 = .ok (.invokevirtual 69, 3) := by decide +kernel
theorem dX6_isTooRare_12 : decode cX6_isTooRare 12 = .ok (.if_icmp .ge 38, 3) := by decide +kernel
theorem dX6_isTooRare_15 : decode cX6_isTooRare 15 = .ok (.iload_n 2, 1) := by decide +kernel
theorem dX6_isTooRare_16 : decode cX6_isTooRare 16 = .ok (.aload_n 0, 1) := by decide +kernel
theorem dX6_isTooRare_17 : decode cX6_isTooRare 17 = .ok (.getfield 15, 3) := by decide +kernel
theorem dX6_isTooRare_20 : decode cX6_isTooRare 20 = .ok (.iload_n 3, 1) := by decide +kernel
theorem dX6_isTooRare_21 : decode cX6_isTooRare 21 = .ok (.invokevirtual 78, 3) := by decide +kernel
theorem dX6_isTooRare_24 : decode cX6_isTooRare 24 = .ok (.iload_n 1, 1) := by decide +kernel
theorem dX6_isTooRare_25 : decode cX6_isTooRare 25 = .ok (.if_icmp .ne 16, 3) := by decide +kernel
theorem dX6_isTooRare_28 : decode cX6_isTooRare 28 = .ok (.iconst 1, 1) := by decide +kernel
theorem dX6_isTooRare_29 : decode cX6_isTooRare 29 = .ok (.aload_n 0, 1) := by decide +kernel
theorem dX6_isTooRare_30 : decode cX6_isTooRare 30 = .ok (.getfield 15, 3) := by decide +kernel
theorem dX6_isTooRare_33 : decode cX6_isTooRare 33 = .ok (.iload_n 3, 1) := by decide +kernel
theorem dX6_isTooRare_34 : decode cX6_isTooRare 34 = .ok (.invokevirtual 72, 3) := by decide +kernel
theorem dX6_isTooRare_37 : decode cX6_isTooRare 37 = .ok (.ishl, 1) := by decide +kernel
theorem dX6_isTooRare_38 : decode cX6_isTooRare 38 = .ok (.goto 4, 3) := by decide +kernel
theorem dX6_isTooRare_41 : decode cX6_isTooRare 41 = .ok (.iconst 0, 1) := by decide +kernel
theorem dX6_isTooRare_42 : decode cX6_isTooRare 42 = .ok (.ior, 1) := by decide +kernel
theorem dX6_isTooRare_43 : decode cX6_isTooRare 43 = .ok (.istore_n 2, 1) := by decide +kernel
theorem dX6_isTooRare_44 : decode cX6_isTooRare 44 = .ok (.iinc 3 1, 3) := by decide +kernel
theorem dX6_isTooRare_47 : decode cX6_isTooRare 47 = .ok (.goto (-43), 3) := by decide +kernel
theorem dX6_isTooRare_50 : decode cX6_isTooRare 50 = .ok (.iconst 0, 1) := by decide +kernel
theorem dX6_isTooRare_51 : decode cX6_isTooRare 51 = .ok (.istore_n 3, 1) := by decide +kernel
theorem dX6_isTooRare_52 : decode cX6_isTooRare 52 = .ok (.iconst 0, 1) := by decide +kernel
theorem dX6_isTooRare_53 : decode cX6_isTooRare 53 = .ok (.istore 4, 2) := by decide +kernel
theorem dX6_isTooRare_55 : decode cX6_isTooRare 55 = .ok (.iload 4, 2) := by decide +kernel
theorem dX6_isTooRare_57 : decode cX6_isTooRare 57 = .ok (.aload_n 0, 1) := by decide +kernel
theorem dX6_isTooRare_58 : decode cX6_isTooRare 58 = .ok (.getfield 15, 3) := by decide +kernel
theorem dX6_isTooRare_61 : decode cX6_isTooRare 61 = .ok (.invokevirtual 29, 3) := by decide +kernel
theorem dX6_isTooRare_64 : decode cX6_isTooRare 64 = .ok (.if_icmp .ge 58, 3) := by decide +kernel
theorem dX6_isTooRare_67 : decode cX6_isTooRare 67 = .ok (.iload_n 3, 1) := by decide +kernel
theorem dX6_isTooRare_68 : decode cX6_isTooRare 68 = .ok (.aload_n 0, 1) := by decide +kernel
theorem dX6_isTooRare_69 : decode cX6_isTooRare 69 = .ok (.getfield 15, 3) := by decide +kernel
theorem dX6_isTooRare_72 : decode cX6_isTooRare 72 = .ok (.iload 4, 2) := by decide +kernel
theorem dX6_isTooRare_74 : decode cX6_isTooRare 74 = .ok (.invokevirtual 56, 3) := by decide +kernel
theorem dX6_isTooRare_77 : decode cX6_isTooRare 77 = .ok (.iload_n 1, 1) := by decide +kernel
theorem dX6_isTooRare_78 : decode cX6_isTooRare 78 = .ok (.if_icmp .ne 35, 3) := by decide +kernel
theorem dX6_isTooRare_81 : decode cX6_isTooRare 81 = .ok (.aload_n 0, 1) := by decide +kernel
theorem dX6_isTooRare_82 : decode cX6_isTooRare 82 = .ok (.getfield 19, 3) := by decide +kernel
theorem dX6_isTooRare_85 : decode cX6_isTooRare 85 = .ok (.iload 4, 2) := by decide +kernel
theorem dX6_isTooRare_87 : decode cX6_isTooRare 87 = .ok (.invokevirtual 35, 3) := by decide +kernel
theorem dX6_isTooRare_90 : decode cX6_isTooRare 90 = .ok (.ifCond .ne 23, 3) := by decide +kernel
theorem dX6_isTooRare_93 : decode cX6_isTooRare 93 = .ok (.aload_n 0, 1) := by decide +kernel
theorem dX6_isTooRare_94 : decode cX6_isTooRare 94 = .ok (.getfield 19, 3) := by decide +kernel
theorem dX6_isTooRare_97 : decode cX6_isTooRare 97 = .ok (.aload_n 0, 1) := by decide +kernel
theorem dX6_isTooRare_98 : decode cX6_isTooRare 98 = .ok (.getfield 15, 3) := by decide +kernel
theorem dX6_isTooRare_101 : decode cX6_isTooRare 101 = .ok (.iload 4, 2) := by decide +kernel
theorem dX6_isTooRare_103 : decode cX6_isTooRare 103 = .ok (.invokevirtual 49, 3) := by decide +kernel
theorem dX6_isTooRare_106 : decode cX6_isTooRare 106 = .ok (.ifCond .le 7, 3) := by decide +kernel
theorem dX6_isTooRare_109 : decode cX6_isTooRare 109 = .ok (.iconst 1, 1) := by decide +kernel
theorem dX6_isTooRare_110 : decode cX6_isTooRare 110 = .ok (.goto 4, 3) := by decide +kernel
theorem dX6_isTooRare_113 : decode cX6_isTooRare 113 = .ok (.iconst 0, 1) := by decide +kernel
theorem dX6_isTooRare_114 : decode cX6_isTooRare 114 = .ok (.iadd, 1) := by decide +kernel
theorem dX6_isTooRare_115 : decode cX6_isTooRare 115 = .ok (.istore_n 3, 1) := by decide +kernel
theorem dX6_isTooRare_116 : decode cX6_isTooRare 116 = .ok (.iinc 4 1, 3) := by decide +kernel
theorem dX6_isTooRare_119 : decode cX6_isTooRare 119 = .ok (.goto (-64), 3) := by decide +kernel
theorem dX6_isTooRare_122 : decode cX6_isTooRare 122 = .ok (.iload_n 3, 1) := by decide +kernel
theorem dX6_isTooRare_123 : decode cX6_isTooRare 123 = .ok (.iload_n 2, 1) := by decide +kernel
theorem dX6_isTooRare_124 : decode cX6_isTooRare 124 = .ok (.invokestatic 111, 3) := by decide +kernel
theorem dX6_isTooRare_127 : decode cX6_isTooRare 127 = .ok (.if_icmp .ge 7, 3) := by decide +kernel
theorem dX6_isTooRare_130 : decode cX6_isTooRare 130 = .ok (.iconst 1, 1) := by decide +kernel
theorem dX6_isTooRare_131 : decode cX6_isTooRare 131 = .ok (.goto 4, 3) := by decide +kernel
theorem dX6_isTooRare_134 : decode cX6_isTooRare 134 = .ok (.iconst 0, 1) := by decide +kernel
theorem dX6_isTooRare_135 : decode cX6_isTooRare 135 = .ok (.ireturn, 1) := by decide +kernel
theorem dX6_tryOwners_0 : decode cX6_tryOwners 0 = .ok (.iload_n 2, 1) := by decide +kernel
theorem dX6_tryOwners_1 : decode cX6_tryOwners 1 = .ok (.aload_n 0, 1) := by decide +kernel
theorem dX6_tryOwners_2 : decode cX6_tryOwners 2 = .ok (.getfield 81, 3) := by decide +kernel
theorem dX6_tryOwners_5 : decode cX6_tryOwners 5 = .ok (.if_icmp .lt 4, 3) := by decide +kernel
theorem dX6_tryOwners_8 : decode cX6_tryOwners 8 = .ok (.return_, 1) := by decide +kernel
theorem dX6_tryOwners_9 : decode cX6_tryOwners 9 = .ok (.iload_n 1, 1) := by decide +kernel
theorem dX6_tryOwners_10 : decode cX6_tryOwners 10 = .ok (.aload_n 0, 1) := by decide +kernel
theorem dX6_tryOwners_11 : decode cX6_tryOwners 11 = .ok (.getfield 15, 3) := by decide +kernel
theorem dX6_tryOwners_14 : decode cX6_tryOwners 14 = .ok (.invokevirtual 29, 3) := by decide +kernel
theorem dX6_tryOwners_17 : decode cX6_tryOwners 17 = .ok (.if_icmp .ge 9, 3) := by decide +kernel
theorem dX6_tryOwners_20 : decode cX6_tryOwners 20 = .ok (.iload_n 1, 1) := by decide +kernel
theorem dX6_tryOwners_21 : decode cX6_tryOwners 21 = .ok (.bipush 6, 2) := by decide +kernel
theorem dX6_tryOwners_23 : decode cX6_tryOwners 23 = .ok (.if_icmp .lt 21, 3) := by decide +kernel
theorem dX6_tryOwners_26 : decode cX6_tryOwners 26 = .ok (.aload_n 0, 1) := by decide +kernel
theorem dX6_tryOwners_27 : decode cX6_tryOwners 27 = .ok (.invokevirtual 116, 3) := by decide +kernel
theorem dX6_tryOwners_30 : decode cX6_tryOwners 30 = .ok (.ifCond .eq 13, 3) := by decide +kernel
theorem dX6_tryOwners_33 : decode cX6_tryOwners 33 = .ok (.aload_n 0, 1) := by decide +kernel
theorem dX6_tryOwners_34 : decode cX6_tryOwners 34 = .ok (.iload_n 2, 1) := by decide +kernel
theorem dX6_tryOwners_35 : decode cX6_tryOwners 35 = .ok (.putfield 81, 3) := by decide +kernel
theorem dX6_tryOwners_38 : decode cX6_tryOwners 38 = .ok (.aload_n 0, 1) := by decide +kernel
theorem dX6_tryOwners_39 : decode cX6_tryOwners 39 = .ok (.iload_n 3, 1) := by decide +kernel
theorem dX6_tryOwners_40 : decode cX6_tryOwners 40 = .ok (.putfield 85, 3) := by decide +kernel
theorem dX6_tryOwners_43 : decode cX6_tryOwners 43 = .ok (.return_, 1) := by decide +kernel
theorem dX6_tryOwners_44 : decode cX6_tryOwners 44 = .ok (.aload_n 0, 1) := by decide +kernel
theorem dX6_tryOwners_45 : decode cX6_tryOwners 45 = .ok (.getfield 19, 3) := by decide +kernel
theorem dX6_tryOwners_48 : decode cX6_tryOwners 48 = .ok (.iload_n 1, 1) := by decide +kernel
theorem dX6_tryOwners_49 : decode cX6_tryOwners 49 = .ok (.invokevirtual 41, 3) := by decide +kernel
theorem dX6_tryOwners_52 : decode cX6_tryOwners 52 = .ok (.istore 4, 2) := by decide +kernel
theorem dX6_tryOwners_54 : decode cX6_tryOwners 54 = .ok (.aload_n 0, 1) := by decide +kernel
theorem dX6_tryOwners_55 : decode cX6_tryOwners 55 = .ok (.getfield 19, 3) := by decide +kernel
theorem dX6_tryOwners_58 : decode cX6_tryOwners 58 = .ok (.iload_n 1, 1) := by decide +kernel
theorem dX6_tryOwners_59 : decode cX6_tryOwners 59 = .ok (.invokevirtual 119, 3) := by decide +kernel
theorem dX6_tryOwners_62 : decode cX6_tryOwners 62 = .ok (.ifCond .ne 30, 3) := by decide +kernel
theorem dX6_tryOwners_65 : decode cX6_tryOwners 65 = .ok (.aload_n 0, 1) := by decide +kernel
theorem dX6_tryOwners_66 : decode cX6_tryOwners 66 = .ok (.iload_n 1, 1) := by decide +kernel
theorem dX6_tryOwners_67 : decode cX6_tryOwners 67 = .ok (.iconst 1, 1) := by decide +kernel
theorem dX6_tryOwners_68 : decode cX6_tryOwners 68 = .ok (.iadd, 1) := by decide +kernel
theorem dX6_tryOwners_69 : decode cX6_tryOwners 69 = .ok (.iload_n 2, 1) := by decide +kernel
theorem dX6_tryOwners_70 : decode cX6_tryOwners 70 = .ok (.iload_n 3, 1) := by decide +kernel
theorem dX6_tryOwners_71 : decode cX6_tryOwners 71 = .ok (.bipush 10, 2) := by decide +kernel
theorem dX6_tryOwners_73 : decode cX6_tryOwners 73 = .ok (.imul, 1) := by decide +kernel
theorem dX6_tryOwners_74 : decode cX6_tryOwners 74 = .ok (.iload 4, 2) := by decide +kernel
theorem dX6_tryOwners_76 : decode cX6_tryOwners 76 = .ok (.iconst (-1), 1) := by decide +kernel
theorem dX6_tryOwners_77 : decode cX6_tryOwners 77 = .ok (.if_icmp .ne 8, 3) := by decide +kernel
theorem dX6_tryOwners_80 : decode cX6_tryOwners 80 = .ok (.bipush 9, 2) := by decide +kernel
theorem dX6_tryOwners_82 : decode cX6_tryOwners 82 = .ok (.goto 5, 3) := by decide +kernel
theorem dX6_tryOwners_85 : decode cX6_tryOwners 85 = .ok (.iload 4, 2) := by decide +kernel
theorem dX6_tryOwners_87 : decode cX6_tryOwners 87 = .ok (.iadd, 1) := by decide +kernel
theorem dX6_tryOwners_88 : decode cX6_tryOwners 88 = .ok (.invokevirtual 95, 3) := by decide +kernel
theorem dX6_tryOwners_91 : decode cX6_tryOwners 91 = .ok (.return_, 1) := by decide +kernel
theorem dX6_tryOwners_92 : decode cX6_tryOwners 92 = .ok (.aload_n 0, 1) := by decide +kernel
theorem dX6_tryOwners_93 : decode cX6_tryOwners 93 = .ok (.iload_n 1, 1) := by decide +kernel
theorem dX6_tryOwners_94 : decode cX6_tryOwners 94 = .ok (.iload 4, 2) := by decide +kernel
theorem dX6_tryOwners_96 : decode cX6_tryOwners 96 = .ok (.invokevirtual 59, 3) := by decide +kernel
theorem dX6_tryOwners_99 : decode cX6_tryOwners 99 = .ok (.iconst 0, 1) := by decide +kernel
theorem dX6_tryOwners_100 : decode cX6_tryOwners 100 = .ok (.istore 5, 2) := by decide +kernel
theorem dX6_tryOwners_102 : decode cX6_tryOwners 102 = .ok (.iload 5, 2) := by decide +kernel
theorem dX6_tryOwners_104 : decode cX6_tryOwners 104 = .ok (.aload_n 0, 1) := by decide +kernel
theorem dX6_tryOwners_105 : decode cX6_tryOwners 105 = .ok (.getfield 15, 3) := by decide +kernel
theorem dX6_tryOwners_108 : decode cX6_tryOwners 108 = .ok (.invokevirtual 108, 3) := by decide +kernel
theorem dX6_tryOwners_111 : decode cX6_tryOwners 111 = .ok (.if_icmp .ge 76, 3) := by decide +kernel
theorem dX6_tryOwners_114 : decode cX6_tryOwners 114 = .ok (.iload 5, 2) := by decide +kernel
theorem dX6_tryOwners_116 : decode cX6_tryOwners 116 = .ok (.iload 4, 2) := by decide +kernel
theorem dX6_tryOwners_118 : decode cX6_tryOwners 118 = .ok (.if_icmp .eq 21, 3) := by decide +kernel
theorem dX6_tryOwners_121 : decode cX6_tryOwners 121 = .ok (.aload_n 0, 1) := by decide +kernel
theorem dX6_tryOwners_122 : decode cX6_tryOwners 122 = .ok (.iload 5, 2) := by decide +kernel
theorem dX6_tryOwners_124 : decode cX6_tryOwners 124 = .ok (.aload_n 0, 1) := by decide +kernel
theorem dX6_tryOwners_125 : decode cX6_tryOwners 125 = .ok (.getfield 15, 3) := by decide +kernel
theorem dX6_tryOwners_128 : decode cX6_tryOwners 128 = .ok (.iload 4, 2) := by decide +kernel
theorem dX6_tryOwners_130 : decode cX6_tryOwners 130 = .ok (.invokevirtual 53, 3) := by decide +kernel
theorem dX6_tryOwners_133 : decode cX6_tryOwners 133 = .ok (.invokevirtual 122, 3) := by decide +kernel
theorem dX6_tryOwners_136 : decode cX6_tryOwners 136 = .ok (.ifCond .eq 45, 3) := by decide +kernel
theorem dX6_tryOwners_139 : decode cX6_tryOwners 139 = .ok (.aload_n 0, 1) := by decide +kernel
theorem dX6_tryOwners_140 : decode cX6_tryOwners 140 = .ok (.iload_n 1, 1) := by decide +kernel
theorem dX6_tryOwners_141 : decode cX6_tryOwners 141 = .ok (.iload 5, 2) := by decide +kernel
theorem dX6_tryOwners_143 : decode cX6_tryOwners 143 = .ok (.invokevirtual 63, 3) := by decide +kernel
theorem dX6_tryOwners_146 : decode cX6_tryOwners 146 = .ok (.aload_n 0, 1) := by decide +kernel
theorem dX6_tryOwners_147 : decode cX6_tryOwners 147 = .ok (.iload_n 1, 1) := by decide +kernel
theorem dX6_tryOwners_148 : decode cX6_tryOwners 148 = .ok (.iconst 1, 1) := by decide +kernel
theorem dX6_tryOwners_149 : decode cX6_tryOwners 149 = .ok (.iadd, 1) := by decide +kernel
theorem dX6_tryOwners_150 : decode cX6_tryOwners 150 = .ok (.iload 5, 2) := by decide +kernel
theorem dX6_tryOwners_152 : decode cX6_tryOwners 152 = .ok (.iload 4, 2) := by decide +kernel
theorem dX6_tryOwners_154 : decode cX6_tryOwners 154 = .ok (.if_icmp .ne 7, 3) := by decide +kernel
theorem dX6_tryOwners_157 : decode cX6_tryOwners 157 = .ok (.iload_n 2, 1) := by decide +kernel
theorem dX6_tryOwners_158 : decode cX6_tryOwners 158 = .ok (.goto 6, 3) := by decide +kernel
theorem dX6_tryOwners_161 : decode cX6_tryOwners 161 = .ok (.iload_n 2, 1) := by decide +kernel
theorem dX6_tryOwners_162 : decode cX6_tryOwners 162 = .ok (.iconst 1, 1) := by decide +kernel
theorem dX6_tryOwners_163 : decode cX6_tryOwners 163 = .ok (.iadd, 1) := by decide +kernel
theorem dX6_tryOwners_164 : decode cX6_tryOwners 164 = .ok (.iload_n 3, 1) := by decide +kernel
theorem dX6_tryOwners_165 : decode cX6_tryOwners 165 = .ok (.bipush 10, 2) := by decide +kernel
theorem dX6_tryOwners_167 : decode cX6_tryOwners 167 = .ok (.imul, 1) := by decide +kernel
theorem dX6_tryOwners_168 : decode cX6_tryOwners 168 = .ok (.iload 5, 2) := by decide +kernel
theorem dX6_tryOwners_170 : decode cX6_tryOwners 170 = .ok (.iadd, 1) := by decide +kernel
theorem dX6_tryOwners_171 : decode cX6_tryOwners 171 = .ok (.invokevirtual 95, 3) := by decide +kernel
theorem dX6_tryOwners_174 : decode cX6_tryOwners 174 = .ok (.aload_n 0, 1) := by decide +kernel
theorem dX6_tryOwners_175 : decode cX6_tryOwners 175 = .ok (.iload_n 1, 1) := by decide +kernel
theorem dX6_tryOwners_176 : decode cX6_tryOwners 176 = .ok (.iload 5, 2) := by decide +kernel
theorem dX6_tryOwners_178 : decode cX6_tryOwners 178 = .ok (.invokevirtual 59, 3) := by decide +kernel
theorem dX6_tryOwners_181 : decode cX6_tryOwners 181 = .ok (.iinc 5 1, 3) := by decide +kernel
theorem dX6_tryOwners_184 : decode cX6_tryOwners 184 = .ok (.goto (-82), 3) := by decide +kernel
theorem dX6_tryOwners_187 : decode cX6_tryOwners 187 = .ok (.aload_n 0, 1) := by decide +kernel
theorem dX6_tryOwners_188 : decode cX6_tryOwners 188 = .ok (.iload_n 1, 1) := by decide +kernel
theorem dX6_tryOwners_189 : decode cX6_tryOwners 189 = .ok (.iload 4, 2) := by decide +kernel
theorem dX6_tryOwners_191 : decode cX6_tryOwners 191 = .ok (.invokevirtual 63, 3) := by decide +kernel
theorem dX6_tryOwners_194 : decode cX6_tryOwners 194 = .ok (.return_, 1) := by decide +kernel
theorem dX6_isFirstElsewhere_0 : decode cX6_isFirstElsewhere 0 = .ok (.iconst 0, 1) := by decide +kernel
theorem dX6_isFirstElsewhere_1 : decode cX6_isFirstElsewhere 1 = .ok (.istore_n 3, 1) := by decide +kernel
theorem dX6_isFirstElsewhere_2 : decode cX6_isFirstElsewhere 2 = .ok (.iload_n 3, 1) := by decide +kernel
theorem dX6_isFirstElsewhere_3 : decode cX6_isFirstElsewhere 3 = .ok (.iload_n 1, 1) := by decide +kernel
theorem dX6_isFirstElsewhere_4 : decode cX6_isFirstElsewhere 4 = .ok (.if_icmp .ge 30, 3) := by decide +kernel
theorem dX6_isFirstElsewhere_7 : decode cX6_isFirstElsewhere 7 = .ok (.aload_n 0, 1) := by decide +kernel
theorem dX6_isFirstElsewhere_8 : decode cX6_isFirstElsewhere 8 = .ok (.getfield 15, 3) := by decide +kernel
theorem dX6_isFirstElsewhere_11 : decode cX6_isFirstElsewhere 11 = .ok (.iload_n 3, 1) := by decide +kernel
theorem dX6_isFirstElsewhere_12 : decode cX6_isFirstElsewhere 12 = .ok (.invokevirtual 53, 3) := by decide +kernel
theorem dX6_isFirstElsewhere_15 : decode cX6_isFirstElsewhere 15 = .ok (.aload_n 0, 1) := by decide +kernel
theorem dX6_isFirstElsewhere_16 : decode cX6_isFirstElsewhere 16 = .ok (.getfield 15, 3) := by decide +kernel
theorem dX6_isFirstElsewhere_19 : decode cX6_isFirstElsewhere 19 = .ok (.iload_n 1, 1) := by decide +kernel
theorem dX6_isFirstElsewhere_20 : decode cX6_isFirstElsewhere 20 = .ok (.invokevirtual 53, 3) := by decide +kernel
theorem dX6_isFirstElsewhere_23 : decode cX6_isFirstElsewhere 23 = .ok (.if_icmp .ne 5, 3) := by decide +kernel
theorem dX6_isFirstElsewhere_26 : decode cX6_isFirstElsewhere 26 = .ok (.iconst 0, 1) := by decide +kernel
theorem dX6_isFirstElsewhere_27 : decode cX6_isFirstElsewhere 27 = .ok (.ireturn, 1) := by decide +kernel
theorem dX6_isFirstElsewhere_28 : decode cX6_isFirstElsewhere 28 = .ok (.iinc 3 1, 3) := by decide +kernel
theorem dX6_isFirstElsewhere_31 : decode cX6_isFirstElsewhere 31 = .ok (.goto (-29), 3) := by decide +kernel
theorem dX6_isFirstElsewhere_34 : decode cX6_isFirstElsewhere 34 = .ok (.aload_n 0, 1) := by decide +kernel
theorem dX6_isFirstElsewhere_35 : decode cX6_isFirstElsewhere 35 = .ok (.getfield 15, 3) := by decide +kernel
theorem dX6_isFirstElsewhere_38 : decode cX6_isFirstElsewhere 38 = .ok (.iload_n 1, 1) := by decide +kernel
theorem dX6_isFirstElsewhere_39 : decode cX6_isFirstElsewhere 39 = .ok (.invokevirtual 53, 3) := by decide +kernel
theorem dX6_isFirstElsewhere_42 : decode cX6_isFirstElsewhere 42 = .ok (.iload_n 2, 1) := by decide +kernel
theorem dX6_isFirstElsewhere_43 : decode cX6_isFirstElsewhere 43 = .ok (.if_icmp .eq 7, 3) := by decide +kernel
theorem dX6_isFirstElsewhere_46 : decode cX6_isFirstElsewhere 46 = .ok (.iconst 1, 1) := by decide +kernel
theorem dX6_isFirstElsewhere_47 : decode cX6_isFirstElsewhere 47 = .ok (.goto 4, 3) := by decide +kernel
theorem dX6_isFirstElsewhere_50 : decode cX6_isFirstElsewhere 50 = .ok (.iconst 0, 1) := by decide +kernel
theorem dX6_isFirstElsewhere_51 : decode cX6_isFirstElsewhere 51 = .ok (.ireturn, 1) := by decide +kernel
theorem dX7_init_0 : decode cX7_init 0 = .ok (.aload_n 0, 1) := by decide +kernel
theorem dX7_init_1 : decode cX7_init 1 = .ok (.invokespecial 3, 3) := by decide +kernel
theorem dX7_init_4 : decode cX7_init 4 = .ok (.aload_n 0, 1) := by decide +kernel
theorem dX7_init_5 : decode cX7_init 5 = .ok (.sipush 240, 3) := by decide +kernel
theorem dX7_init_8 : decode cX7_init 8 = .ok (.newarray .int, 2) := by decide +kernel
theorem dX7_init_10 : decode cX7_init 10 = .ok (.putfield 9, 3) := by decide +kernel
theorem dX7_init_13 : decode cX7_init 13 = .ok (.return_, 1) := by decide +kernel
theorem dX7_bytesIn_0 : decode cX7_bytesIn 0 = .ok (.iconst 0, 1) := by decide +kernel
theorem dX7_bytesIn_1 : decode cX7_bytesIn 1 = .ok (.istore_n 1, 1) := by decide +kernel
theorem dX7_bytesIn_2 : decode cX7_bytesIn 2 = .ok (.bipush 24, 2) := by decide +kernel
theorem dX7_bytesIn_4 : decode cX7_bytesIn 4 = .ok (.istore_n 2, 1) := by decide +kernel
theorem dX7_bytesIn_5 : decode cX7_bytesIn 5 = .ok (.iload_n 2, 1) := by decide +kernel
theorem dX7_bytesIn_6 : decode cX7_bytesIn 6 = .ok (.ifCond .lt 27, 3) := by decide +kernel
theorem dX7_bytesIn_9 : decode cX7_bytesIn 9 = .ok (.iload_n 1, 1) := by decide +kernel
theorem dX7_bytesIn_10 : decode cX7_bytesIn 10 = .ok (.iload_n 0, 1) := by decide +kernel
theorem dX7_bytesIn_11 : decode cX7_bytesIn 11 = .ok (.iload_n 2, 1) := by decide +kernel
theorem dX7_bytesIn_12 : decode cX7_bytesIn 12 = .ok (.iushr, 1) := by decide +kernel
theorem dX7_bytesIn_13 : decode cX7_bytesIn 13 = .ok (.sipush 255, 3) := by decide +kernel
theorem dX7_bytesIn_16 : decode cX7_bytesIn 16 = .ok (.iand, 1) := by decide +kernel
theorem dX7_bytesIn_17 : decode cX7_bytesIn 17 = .ok (.ifCond .eq 7, 3) := by decide +kernel
theorem dX7_bytesIn_20 : decode cX7_bytesIn 20 = .ok (.iconst 1, 1) := by decide +kernel
theorem dX7_bytesIn_21 : decode cX7_bytesIn 21 = .ok (.goto 4, 3) := by decide +kernel
theorem dX7_bytesIn_24 : decode cX7_bytesIn 24 = .ok (.iconst 0, 1) := by decide +kernel
theorem dX7_bytesIn_25 : decode cX7_bytesIn 25 = .ok (.iadd, 1) := by decide +kernel
theorem dX7_bytesIn_26 : decode cX7_bytesIn 26 = .ok (.istore_n 1, 1) := by decide +kernel
theorem dX7_bytesIn_27 : decode cX7_bytesIn 27 = .ok (.iinc 2 (-8), 3) := by decide +kernel
theorem dX7_bytesIn_30 : decode cX7_bytesIn 30 = .ok (.goto (-25), 3) := by decide +kernel
theorem dX7_bytesIn_33 : decode cX7_bytesIn 33 = .ok (.iload_n 1, 1) := by decide +kernel
theorem dX7_bytesIn_34 : decode cX7_bytesIn 34 = .ok (.ireturn, 1) := by decide +kernel
theorem dX7_append_0 : decode cX7_append 0 = .ok (.bipush 24, 2) := by decide +kernel
theorem dX7_append_2 : decode cX7_append 2 = .ok (.istore_n 2, 1) := by decide +kernel
theorem dX7_append_3 : decode cX7_append 3 = .ok (.iload_n 2, 1) := by decide +kernel
theorem dX7_append_4 : decode cX7_append 4 = .ok (.ifCond .lt 51, 3) := by decide +kernel
theorem dX7_append_7 : decode cX7_append 7 = .ok (.iload_n 1, 1) := by decide +kernel
theorem dX7_append_8 : decode cX7_append 8 = .ok (.iload_n 2, 1) := by decide +kernel
theorem dX7_append_9 : decode cX7_append 9 = .ok (.iushr, 1) := by decide +kernel
theorem dX7_append_10 : decode cX7_append 10 = .ok (.sipush 255, 3) := by decide +kernel
theorem dX7_append_13 : decode cX7_append 13 = .ok (.iand, 1) := by decide +kernel
theorem dX7_append_14 : decode cX7_append 14 = .ok (.istore_n 3, 1) := by decide +kernel
theorem dX7_append_15 : decode cX7_append 15 = .ok (.iload_n 3, 1) := by decide +kernel
theorem dX7_append_16 : decode cX7_append 16 = .ok (.ifCond .eq 33, 3) := by decide +kernel
theorem dX7_append_19 : decode cX7_append 19 = .ok (.aload_n 0, 1) := by decide +kernel
theorem dX7_append_20 : decode cX7_append 20 = .ok (.getfield 15, 3) := by decide +kernel
theorem dX7_append_23 : decode cX7_append 23 = .ok (.sipush 240, 3) := by decide +kernel
theorem dX7_append_26 : decode cX7_append 26 = .ok (.if_icmp .ge 23, 3) := by decide +kernel
theorem dX7_append_29 : decode cX7_append 29 = .ok (.aload_n 0, 1) := by decide +kernel
theorem dX7_append_30 : decode cX7_append 30 = .ok (.getfield 9, 3) := by decide +kernel
theorem dX7_append_33 : decode cX7_append 33 = .ok (.aload_n 0, 1) := by decide +kernel
theorem dX7_append_34 : decode cX7_append 34 = .ok (.getfield 15, 3) := by decide +kernel
theorem dX7_append_37 : decode cX7_append 37 = .ok (.iload_n 3, 1) := by decide +kernel
theorem dX7_append_38 : decode cX7_append 38 = .ok (.iastore, 1) := by decide +kernel
theorem dX7_append_39 : decode cX7_append 39 = .ok (.aload_n 0, 1) := by decide +kernel
theorem dX7_append_40 : decode cX7_append 40 = .ok (.dup, 1) := by decide +kernel
theorem dX7_append_41 : decode cX7_append 41 = .ok (.getfield 15, 3) := by decide +kernel
theorem dX7_append_44 : decode cX7_append 44 = .ok (.iconst 1, 1) := by decide +kernel
theorem dX7_append_45 : decode cX7_append 45 = .ok (.iadd, 1) := by decide +kernel
theorem dX7_append_46 : decode cX7_append 46 = .ok (.putfield 15, 3) := by decide +kernel
theorem dX7_append_49 : decode cX7_append 49 = .ok (.iinc 2 (-8), 3) := by decide +kernel
theorem dX7_append_52 : decode cX7_append 52 = .ok (.goto (-49), 3) := by decide +kernel
theorem dX7_append_55 : decode cX7_append 55 = .ok (.return_, 1) := by decide +kernel
theorem dX7_size_0 : decode cX7_size 0 = .ok (.aload_n 0, 1) := by decide +kernel
theorem dX7_size_1 : decode cX7_size 1 = .ok (.getfield 15, 3) := by decide +kernel
theorem dX7_size_4 : decode cX7_size 4 = .ok (.ireturn, 1) := by decide +kernel
theorem dX7_cutTo_0 : decode cX7_cutTo 0 = .ok (.aload_n 0, 1) := by decide +kernel
theorem dX7_cutTo_1 : decode cX7_cutTo 1 = .ok (.iload_n 1, 1) := by decide +kernel
theorem dX7_cutTo_2 : decode cX7_cutTo 2 = .ok (.putfield 15, 3) := by decide +kernel
theorem dX7_cutTo_5 : decode cX7_cutTo 5 = .ok (.return_, 1) := by decide +kernel
theorem dX7_rewind_0 : decode cX7_rewind 0 = .ok (.aload_n 0, 1) := by decide +kernel
theorem dX7_rewind_1 : decode cX7_rewind 1 = .ok (.iconst 0, 1) := by decide +kernel
theorem dX7_rewind_2 : decode cX7_rewind 2 = .ok (.putfield 19, 3) := by decide +kernel
theorem dX7_rewind_5 : decode cX7_rewind 5 = .ok (.return_, 1) := by decide +kernel
theorem dX7_position_0 : decode cX7_position 0 = .ok (.aload_n 0, 1) := by decide +kernel
theorem dX7_position_1 : decode cX7_position 1 = .ok (.getfield 19, 3) := by decide +kernel
theorem dX7_position_4 : decode cX7_position 4 = .ok (.ireturn, 1) := by decide +kernel
theorem dX7_sign_0 : decode cX7_sign 0 = .ok (.aload_n 0, 1) := by decide +kernel
theorem dX7_sign_1 : decode cX7_sign 1 = .ok (.getfield 19, 3) := by decide +kernel
theorem dX7_sign_4 : decode cX7_sign 4 = .ok (.aload_n 0, 1) := by decide +kernel
theorem dX7_sign_5 : decode cX7_sign 5 = .ok (.getfield 15, 3) := by decide +kernel
theorem dX7_sign_8 : decode cX7_sign 8 = .ok (.if_icmp .ge 30, 3) := by decide +kernel
theorem dX7_sign_11 : decode cX7_sign 11 = .ok (.aload_n 0, 1) := by decide +kernel
theorem dX7_sign_12 : decode cX7_sign 12 = .ok (.getfield 9, 3) := by decide +kernel
theorem dX7_sign_15 : decode cX7_sign 15 = .ok (.aload_n 0, 1) := by decide +kernel
theorem dX7_sign_16 : decode cX7_sign 16 = .ok (.getfield 19, 3) := by decide +kernel
theorem dX7_sign_19 : decode cX7_sign 19 = .ok (.iaload, 1) := by decide +kernel
theorem dX7_sign_20 : decode cX7_sign 20 = .ok (.bipush 32, 2) := by decide +kernel
theorem dX7_sign_22 : decode cX7_sign 22 = .ok (.if_icmp .ne 16, 3) := by decide +kernel
theorem dX7_sign_25 : decode cX7_sign 25 = .ok (.aload_n 0, 1) := by decide +kernel
theorem dX7_sign_26 : decode cX7_sign 26 = .ok (.dup, 1) := by decide +kernel
theorem dX7_sign_27 : decode cX7_sign 27 = .ok (.getfield 19, 3) := by decide +kernel
theorem dX7_sign_30 : decode cX7_sign 30 = .ok (.iconst 1, 1) := by decide +kernel
theorem dX7_sign_31 : decode cX7_sign 31 = .ok (.iadd, 1) := by decide +kernel
theorem dX7_sign_32 : decode cX7_sign 32 = .ok (.putfield 19, 3) := by decide +kernel
theorem dX7_sign_35 : decode cX7_sign 35 = .ok (.goto (-35), 3) := by decide +kernel
theorem dX7_sign_38 : decode cX7_sign 38 = .ok (.aload_n 0, 1) := by decide +kernel
theorem dX7_sign_39 : decode cX7_sign 39 = .ok (.getfield 19, 3) := by decide +kernel
theorem dX7_sign_42 : decode cX7_sign 42 = .ok (.aload_n 0, 1) := by decide +kernel
theorem dX7_sign_43 : decode cX7_sign 43 = .ok (.getfield 15, 3) := by decide +kernel
theorem dX7_sign_46 : decode cX7_sign 46 = .ok (.if_icmp .ge 15, 3) := by decide +kernel
theorem dX7_sign_49 : decode cX7_sign 49 = .ok (.aload_n 0, 1) := by decide +kernel
theorem dX7_sign_50 : decode cX7_sign 50 = .ok (.getfield 9, 3) := by decide +kernel
theorem dX7_sign_53 : decode cX7_sign 53 = .ok (.aload_n 0, 1) := by decide +kernel
theorem dX7_sign_54 : decode cX7_sign 54 = .ok (.getfield 19, 3) := by decide +kernel
theorem dX7_sign_57 : decode cX7_sign 57 = .ok (.iaload, 1) := by decide +kernel
theorem dX7_sign_58 : decode cX7_sign 58 = .ok (.goto 4, 3) := by decide +kernel
theorem dX7_sign_61 : decode cX7_sign 61 = .ok (.iconst (-1), 1) := by decide +kernel
theorem dX7_sign_62 : decode cX7_sign 62 = .ok (.ireturn, 1) := by decide +kernel
theorem dX7_step_0 : decode cX7_step 0 = .ok (.aload_n 0, 1) := by decide +kernel
theorem dX7_step_1 : decode cX7_step 1 = .ok (.dup, 1) := by decide +kernel
theorem dX7_step_2 : decode cX7_step 2 = .ok (.getfield 19, 3) := by decide +kernel
theorem dX7_step_5 : decode cX7_step 5 = .ok (.iconst 1, 1) := by decide +kernel
theorem dX7_step_6 : decode cX7_step 6 = .ok (.iadd, 1) := by decide +kernel
theorem dX7_step_7 : decode cX7_step 7 = .ok (.putfield 19, 3) := by decide +kernel
theorem dX7_step_10 : decode cX7_step 10 = .ok (.return_, 1) := by decide +kernel
theorem dX7_stepBack_0 : decode cX7_stepBack 0 = .ok (.aload_n 0, 1) := by decide +kernel
theorem dX7_stepBack_1 : decode cX7_stepBack 1 = .ok (.dup, 1) := by decide +kernel
theorem dX7_stepBack_2 : decode cX7_stepBack 2 = .ok (.getfield 19, 3) := by decide +kernel
theorem dX7_stepBack_5 : decode cX7_stepBack 5 = .ok (.iconst 1, 1) := by decide +kernel
theorem dX7_stepBack_6 : decode cX7_stepBack 6 = .ok (.isub, 1) := by decide +kernel
theorem dX7_stepBack_7 : decode cX7_stepBack 7 = .ok (.putfield 19, 3) := by decide +kernel
theorem dX7_stepBack_10 : decode cX7_stepBack 10 = .ok (.return_, 1) := by decide +kernel
theorem dX7_takes_0 : decode cX7_takes 0 = .ok (.aload_n 0, 1) := by decide +kernel
theorem dX7_takes_1 : decode cX7_takes 1 = .ok (.invokevirtual 22, 3) := by decide +kernel
theorem dX7_takes_4 : decode cX7_takes 4 = .ok (.iload_n 1, 1) := by decide +kernel
theorem dX7_takes_5 : decode cX7_takes 5 = .ok (.if_icmp .eq 5, 3) := by decide +kernel
theorem dX7_takes_8 : decode cX7_takes 8 = .ok (.iconst 0, 1) := by decide +kernel
theorem dX7_takes_9 : decode cX7_takes 9 = .ok (.ireturn, 1) := by decide +kernel
theorem dX7_takes_10 : decode cX7_takes 10 = .ok (.aload_n 0, 1) := by decide +kernel
theorem dX7_takes_11 : decode cX7_takes 11 = .ok (.dup, 1) := by decide +kernel
theorem dX7_takes_12 : decode cX7_takes 12 = .ok (.getfield 19, 3) := by decide +kernel
theorem dX7_takes_15 : decode cX7_takes 15 = .ok (.iconst 1, 1) := by decide +kernel
theorem dX7_takes_16 : decode cX7_takes 16 = .ok (.iadd, 1) := by decide +kernel
theorem dX7_takes_17 : decode cX7_takes 17 = .ok (.putfield 19, 3) := by decide +kernel
theorem dX7_takes_20 : decode cX7_takes 20 = .ok (.iconst 1, 1) := by decide +kernel
theorem dX7_takes_21 : decode cX7_takes 21 = .ok (.ireturn, 1) := by decide +kernel
theorem dX7_number_0 : decode cX7_number 0 = .ok (.aload_n 0, 1) := by decide +kernel
theorem dX7_number_1 : decode cX7_number 1 = .ok (.invokevirtual 22, 3) := by decide +kernel
theorem dX7_number_4 : decode cX7_number 4 = .ok (.pop, 1) := by decide +kernel
theorem dX7_number_5 : decode cX7_number 5 = .ok (.aload_n 0, 1) := by decide +kernel
theorem dX7_number_6 : decode cX7_number 6 = .ok (.invokevirtual 26, 3) := by decide +kernel
theorem dX7_number_9 : decode cX7_number 9 = .ok (.ifCond .ne 5, 3) := by decide +kernel
theorem dX7_number_12 : decode cX7_number 12 = .ok (.iconst (-1), 1) := by decide +kernel
theorem dX7_number_13 : decode cX7_number 13 = .ok (.ireturn, 1) := by decide +kernel
theorem dX7_number_14 : decode cX7_number 14 = .ok (.iconst 0, 1) := by decide +kernel
theorem dX7_number_15 : decode cX7_number 15 = .ok (.istore_n 2, 1) := by decide +kernel
theorem dX7_number_16 : decode cX7_number 16 = .ok (.iconst 0, 1) := by decide +kernel
theorem dX7_number_17 : decode cX7_number 17 = .ok (.istore_n 3, 1) := by decide +kernel
theorem dX7_number_18 : decode cX7_number 18 = .ok (.iload_n 3, 1) := by decide +kernel
theorem dX7_number_19 : decode cX7_number 19 = .ok (.iload_n 1, 1) := by decide +kernel
theorem dX7_number_20 : decode cX7_number 20 = .ok (.if_icmp .ge 44, 3) := by decide +kernel
theorem dX7_number_23 : decode cX7_number 23 = .ok (.aload_n 0, 1) := by decide +kernel
theorem dX7_number_24 : decode cX7_number 24 = .ok (.invokevirtual 26, 3) := by decide +kernel
theorem dX7_number_27 : decode cX7_number 27 = .ok (.ifCond .eq 37, 3) := by decide +kernel
theorem dX7_number_30 : decode cX7_number 30 = .ok (.iload_n 2, 1) := by decide +kernel
theorem dX7_number_31 : decode cX7_number 31 = .ok (.bipush 10, 2) := by decide +kernel
theorem dX7_number_33 : decode cX7_number 33 = .ok (.imul, 1) := by decide +kernel
theorem dX7_number_34 : decode cX7_number 34 = .ok (.aload_n 0, 1) := by decide +kernel
theorem dX7_number_35 : decode cX7_number 35 = .ok (.getfield 9, 3) := by decide +kernel
theorem dX7_number_38 : decode cX7_number 38 = .ok (.aload_n 0, 1) := by decide +kernel
theorem dX7_number_39 : decode cX7_number 39 = .ok (.getfield 19, 3) := by decide +kernel
theorem dX7_number_42 : decode cX7_number 42 = .ok (.iaload, 1) := by decide +kernel
theorem dX7_number_43 : decode cX7_number 43 = .ok (.iadd, 1) := by decide +kernel
theorem dX7_number_44 : decode cX7_number 44 = .ok (.bipush 48, 2) := by decide +kernel
theorem dX7_number_46 : decode cX7_number 46 = .ok (.isub, 1) := by decide +kernel
theorem dX7_number_47 : decode cX7_number 47 = .ok (.istore_n 2, 1) := by decide +kernel
theorem dX7_number_48 : decode cX7_number 48 = .ok (.aload_n 0, 1) := by decide +kernel
theorem dX7_number_49 : decode cX7_number 49 = .ok (.dup, 1) := by decide +kernel
theorem dX7_number_50 : decode cX7_number 50 = .ok (.getfield 19, 3) := by decide +kernel
theorem dX7_number_53 : decode cX7_number 53 = .ok (.iconst 1, 1) := by decide +kernel
theorem dX7_number_54 : decode cX7_number 54 = .ok (.iadd, 1) := by decide +kernel
theorem dX7_number_55 : decode cX7_number 55 = .ok (.putfield 19, 3) := by decide +kernel
theorem dX7_number_58 : decode cX7_number 58 = .ok (.iinc 3 1, 3) := by decide +kernel
theorem dX7_number_61 : decode cX7_number 61 = .ok (.goto (-43), 3) := by decide +kernel
theorem dX7_number_64 : decode cX7_number 64 = .ok (.aload_n 0, 1) := by decide +kernel
theorem dX7_number_65 : decode cX7_number 65 = .ok (.invokevirtual 26, 3) := by decide +kernel
theorem dX7_number_68 : decode cX7_number 68 = .ok (.ifCond .eq 7, 3) := by decide +kernel
theorem dX7_number_71 : decode cX7_number 71 = .ok (.iconst (-1), 1) := by decide +kernel
theorem dX7_number_72 : decode cX7_number 72 = .ok (.goto 4, 3) := by decide +kernel
theorem dX7_number_75 : decode cX7_number 75 = .ok (.iload_n 2, 1) := by decide +kernel
theorem dX7_number_76 : decode cX7_number 76 = .ok (.ireturn, 1) := by decide +kernel
theorem dX7_isAtDigit_0 : decode cX7_isAtDigit 0 = .ok (.aload_n 0, 1) := by decide +kernel
theorem dX7_isAtDigit_1 : decode cX7_isAtDigit 1 = .ok (.getfield 19, 3) := by decide +kernel
theorem dX7_isAtDigit_4 : decode cX7_isAtDigit 4 = .ok (.aload_n 0, 1) := by decide +kernel
theorem dX7_isAtDigit_5 : decode cX7_isAtDigit 5 = .ok (.getfield 15, 3) := by decide +kernel
theorem dX7_isAtDigit_8 : decode cX7_isAtDigit 8 = .ok (.if_icmp .ge 35, 3) := by decide +kernel
theorem dX7_isAtDigit_11 : decode cX7_isAtDigit 11 = .ok (.aload_n 0, 1) := by decide +kernel
theorem dX7_isAtDigit_12 : decode cX7_isAtDigit 12 = .ok (.getfield 9, 3) := by decide +kernel
theorem dX7_isAtDigit_15 : decode cX7_isAtDigit 15 = .ok (.aload_n 0, 1) := by decide +kernel
theorem dX7_isAtDigit_16 : decode cX7_isAtDigit 16 = .ok (.getfield 19, 3) := by decide +kernel
theorem dX7_isAtDigit_19 : decode cX7_isAtDigit 19 = .ok (.iaload, 1) := by decide +kernel
theorem dX7_isAtDigit_20 : decode cX7_isAtDigit 20 = .ok (.bipush 48, 2) := by decide +kernel
theorem dX7_isAtDigit_22 : decode cX7_isAtDigit 22 = .ok (.if_icmp .lt 21, 3) := by decide +kernel
theorem dX7_isAtDigit_25 : decode cX7_isAtDigit 25 = .ok (.aload_n 0, 1) := by decide +kernel
theorem dX7_isAtDigit_26 : decode cX7_isAtDigit 26 = .ok (.getfield 9, 3) := by decide +kernel
theorem dX7_isAtDigit_29 : decode cX7_isAtDigit 29 = .ok (.aload_n 0, 1) := by decide +kernel
theorem dX7_isAtDigit_30 : decode cX7_isAtDigit 30 = .ok (.getfield 19, 3) := by decide +kernel
theorem dX7_isAtDigit_33 : decode cX7_isAtDigit 33 = .ok (.iaload, 1) := by decide +kernel
theorem dX7_isAtDigit_34 : decode cX7_isAtDigit 34 = .ok (.bipush 57, 2) := by decide +kernel
theorem dX7_isAtDigit_36 : decode cX7_isAtDigit 36 = .ok (.if_icmp .gt 7, 3) := by decide +kernel
theorem dX7_isAtDigit_39 : decode cX7_isAtDigit 39 = .ok (.iconst 1, 1) := by decide +kernel
theorem dX7_isAtDigit_40 : decode cX7_isAtDigit 40 = .ok (.goto 4, 3) := by decide +kernel
theorem dX7_isAtDigit_43 : decode cX7_isAtDigit 43 = .ok (.iconst 0, 1) := by decide +kernel
theorem dX7_isAtDigit_44 : decode cX7_isAtDigit 44 = .ok (.ireturn, 1) := by decide +kernel
theorem dX8_init_0 : decode cX8_init 0 = .ok (.aload_n 0, 1) := by decide +kernel
theorem dX8_init_1 : decode cX8_init 1 = .ok (.invokespecial 3, 3) := by decide +kernel
theorem dX8_init_4 : decode cX8_init 4 = .ok (.aload_n 0, 1) := by decide +kernel
theorem dX8_init_5 : decode cX8_init 5 = .ok (.bipush 54, 2) := by decide +kernel
theorem dX8_init_7 : decode cX8_init 7 = .ok (.newarray .int, 2) := by decide +kernel
theorem dX8_init_9 : decode cX8_init 9 = .ok (.putfield 9, 3) := by decide +kernel
theorem dX8_init_12 : decode cX8_init 12 = .ok (.aload_n 0, 1) := by decide +kernel
theorem dX8_init_13 : decode cX8_init 13 = .ok (.getstatic 15, 3) := by decide +kernel
theorem dX8_init_16 : decode cX8_init 16 = .ok (.arraylength, 1) := by decide +kernel
theorem dX8_init_17 : decode cX8_init 17 = .ok (.newarray .int, 2) := by decide +kernel
theorem dX8_init_19 : decode cX8_init 19 = .ok (.putfield 18, 3) := by decide +kernel
theorem dX8_init_22 : decode cX8_init 22 = .ok (.return_, 1) := by decide +kernel
theorem dX8_clear_0 : decode cX8_clear 0 = .ok (.aload_n 0, 1) := by decide +kernel
theorem dX8_clear_1 : decode cX8_clear 1 = .ok (.getfield 18, 3) := by decide +kernel
theorem dX8_clear_4 : decode cX8_clear 4 = .ok (.iconst 0, 1) := by decide +kernel
theorem dX8_clear_5 : decode cX8_clear 5 = .ok (.invokestatic 21, 3) := by decide +kernel
theorem dX8_clear_8 : decode cX8_clear 8 = .ok (.aload_n 0, 1) := by decide +kernel
theorem dX8_clear_9 : decode cX8_clear 9 = .ok (.iconst 0, 1) := by decide +kernel
theorem dX8_clear_10 : decode cX8_clear 10 = .ok (.iconst 0, 1) := by decide +kernel
theorem dX8_clear_11 : decode cX8_clear 11 = .ok (.invokevirtual 27, 3) := by decide +kernel
theorem dX8_clear_14 : decode cX8_clear 14 = .ok (.return_, 1) := by decide +kernel
theorem dX8_takeOver_0 : decode cX8_takeOver 0 = .ok (.aload_n 1, 1) := by decide +kernel
theorem dX8_takeOver_1 : decode cX8_takeOver 1 = .ok (.getfield 9, 3) := by decide +kernel
theorem dX8_takeOver_4 : decode cX8_takeOver 4 = .ok (.iconst 0, 1) := by decide +kernel
theorem dX8_takeOver_5 : decode cX8_takeOver 5 = .ok (.aload_n 0, 1) := by decide +kernel
theorem dX8_takeOver_6 : decode cX8_takeOver 6 = .ok (.getfield 9, 3) := by decide +kernel
theorem dX8_takeOver_9 : decode cX8_takeOver 9 = .ok (.iconst 0, 1) := by decide +kernel
theorem dX8_takeOver_10 : decode cX8_takeOver 10 = .ok (.aload_n 0, 1) := by decide +kernel
theorem dX8_takeOver_11 : decode cX8_takeOver 11 = .ok (.getfield 9, 3) := by decide +kernel
theorem dX8_takeOver_14 : decode cX8_takeOver 14 = .ok (.arraylength, 1) := by decide +kernel
theorem dX8_takeOver_15 : decode cX8_takeOver 15 = .ok (.invokestatic 31, 3) := by decide +kernel
theorem dX8_takeOver_18 : decode cX8_takeOver 18 = .ok (.aload_n 1, 1) := by decide +kernel
theorem dX8_takeOver_19 : decode cX8_takeOver 19 = .ok (.getfield 18, 3) := by decide +kernel
theorem dX8_takeOver_22 : decode cX8_takeOver 22 = .ok (.iconst 0, 1) := by decide +kernel
theorem dX8_takeOver_23 : decode cX8_takeOver 23 = .ok (.aload_n 0, 1) := by decide +kernel
theorem dX8_takeOver_24 : decode cX8_takeOver 24 = .ok (.getfield 18, 3) := by decide +kernel
theorem dX8_takeOver_27 : decode cX8_takeOver 27 = .ok (.iconst 0, 1) := by decide +kernel
theorem dX8_takeOver_28 : decode cX8_takeOver 28 = .ok (.aload_n 0, 1) := by decide +kernel
theorem dX8_takeOver_29 : decode cX8_takeOver 29 = .ok (.getfield 18, 3) := by decide +kernel
theorem dX8_takeOver_32 : decode cX8_takeOver 32 = .ok (.arraylength, 1) := by decide +kernel
theorem dX8_takeOver_33 : decode cX8_takeOver 33 = .ok (.invokestatic 31, 3) := by decide +kernel
theorem dX8_takeOver_36 : decode cX8_takeOver 36 = .ok (.return_, 1) := by decide +kernel
theorem dX8_opens_0 : decode cX8_opens 0 = .ok (.aload_n 0, 1) := by decide +kernel
theorem dX8_opens_1 : decode cX8_opens 1 = .ok (.getfield 18, 3) := by decide +kernel
theorem dX8_opens_4 : decode cX8_opens 4 = .ok (.iload_n 1, 1) := by decide +kernel
theorem dX8_opens_5 : decode cX8_opens 5 = .ok (.iaload, 1) := by decide +kernel
theorem dX8_opens_6 : decode cX8_opens 6 = .ok (.getstatic 37, 3) := by decide +kernel
theorem dX8_opens_9 : decode cX8_opens 9 = .ok (.iload_n 1, 1) := by decide +kernel
theorem dX8_opens_10 : decode cX8_opens 10 = .ok (.iaload, 1) := by decide +kernel
theorem dX8_opens_11 : decode cX8_opens 11 = .ok (.if_icmp .lt 5, 3) := by decide +kernel
theorem dX8_opens_14 : decode cX8_opens 14 = .ok (.iconst 0, 1) := by decide +kernel
theorem dX8_opens_15 : decode cX8_opens 15 = .ok (.ireturn, 1) := by decide +kernel
theorem dX8_opens_16 : decode cX8_opens 16 = .ok (.aload_n 0, 1) := by decide +kernel
theorem dX8_opens_17 : decode cX8_opens 17 = .ok (.iload_n 1, 1) := by decide +kernel
theorem dX8_opens_18 : decode cX8_opens 18 = .ok (.aload_n 0, 1) := by decide +kernel
theorem dX8_opens_19 : decode cX8_opens 19 = .ok (.getfield 18, 3) := by decide +kernel
theorem dX8_opens_22 : decode cX8_opens 22 = .ok (.iload_n 1, 1) := by decide +kernel
theorem dX8_opens_23 : decode cX8_opens 23 = .ok (.iaload, 1) := by decide +kernel
theorem dX8_opens_24 : decode cX8_opens 24 = .ok (.invokevirtual 27, 3) := by decide +kernel
theorem dX8_opens_27 : decode cX8_opens 27 = .ok (.aload_n 0, 1) := by decide +kernel
theorem dX8_opens_28 : decode cX8_opens 28 = .ok (.getfield 18, 3) := by decide +kernel
theorem dX8_opens_31 : decode cX8_opens 31 = .ok (.iload_n 1, 1) := by decide +kernel
theorem dX8_opens_32 : decode cX8_opens 32 = .ok (.dup2, 1) := by decide +kernel
theorem dX8_opens_33 : decode cX8_opens 33 = .ok (.iaload, 1) := by decide +kernel
theorem dX8_opens_34 : decode cX8_opens 34 = .ok (.iconst 1, 1) := by decide +kernel
theorem dX8_opens_35 : decode cX8_opens 35 = .ok (.iadd, 1) := by decide +kernel
theorem dX8_opens_36 : decode cX8_opens 36 = .ok (.iastore, 1) := by decide +kernel
theorem dX8_opens_37 : decode cX8_opens 37 = .ok (.iconst 1, 1) := by decide +kernel
theorem dX8_opens_38 : decode cX8_opens 38 = .ok (.ireturn, 1) := by decide +kernel
theorem dX8_fillUsual_0 : decode cX8_fillUsual 0 = .ok (.iconst 0, 1) := by decide +kernel
theorem dX8_fillUsual_1 : decode cX8_fillUsual 1 = .ok (.istore_n 3, 1) := by decide +kernel
theorem dX8_fillUsual_2 : decode cX8_fillUsual 2 = .ok (.iload_n 3, 1) := by decide +kernel
theorem dX8_fillUsual_3 : decode cX8_fillUsual 3 = .ok (.iconst 3, 1) := by decide +kernel
theorem dX8_fillUsual_4 : decode cX8_fillUsual 4 = .ok (.if_icmp .ge 34, 3) := by decide +kernel
theorem dX8_fillUsual_7 : decode cX8_fillUsual 7 = .ok (.aload_n 0, 1) := by decide +kernel
theorem dX8_fillUsual_8 : decode cX8_fillUsual 8 = .ok (.getfield 9, 3) := by decide +kernel
theorem dX8_fillUsual_11 : decode cX8_fillUsual 11 = .ok (.getstatic 40, 3) := by decide +kernel
theorem dX8_fillUsual_14 : decode cX8_fillUsual 14 = .ok (.iload_n 1, 1) := by decide +kernel
theorem dX8_fillUsual_15 : decode cX8_fillUsual 15 = .ok (.iaload, 1) := by decide +kernel
theorem dX8_fillUsual_16 : decode cX8_fillUsual 16 = .ok (.iload_n 2, 1) := by decide +kernel
theorem dX8_fillUsual_17 : decode cX8_fillUsual 17 = .ok (.iadd, 1) := by decide +kernel
theorem dX8_fillUsual_18 : decode cX8_fillUsual 18 = .ok (.iconst 3, 1) := by decide +kernel
theorem dX8_fillUsual_19 : decode cX8_fillUsual 19 = .ok (.imul, 1) := by decide +kernel
theorem dX8_fillUsual_20 : decode cX8_fillUsual 20 = .ok (.iload_n 3, 1) := by decide +kernel
theorem dX8_fillUsual_21 : decode cX8_fillUsual 21 = .ok (.iadd, 1) := by decide +kernel
theorem dX8_fillUsual_22 : decode cX8_fillUsual 22 = .ok (.getstatic 43, 3) := by decide +kernel
theorem dX8_fillUsual_25 : decode cX8_fillUsual 25 = .ok (.iload_n 1, 1) := by decide +kernel
theorem dX8_fillUsual_26 : decode cX8_fillUsual 26 = .ok (.iconst 3, 1) := by decide +kernel
theorem dX8_fillUsual_27 : decode cX8_fillUsual 27 = .ok (.imul, 1) := by decide +kernel
theorem dX8_fillUsual_28 : decode cX8_fillUsual 28 = .ok (.iload_n 3, 1) := by decide +kernel
theorem dX8_fillUsual_29 : decode cX8_fillUsual 29 = .ok (.iadd, 1) := by decide +kernel
theorem dX8_fillUsual_30 : decode cX8_fillUsual 30 = .ok (.iaload, 1) := by decide +kernel
theorem dX8_fillUsual_31 : decode cX8_fillUsual 31 = .ok (.iastore, 1) := by decide +kernel
theorem dX8_fillUsual_32 : decode cX8_fillUsual 32 = .ok (.iinc 3 1, 3) := by decide +kernel
theorem dX8_fillUsual_35 : decode cX8_fillUsual 35 = .ok (.goto (-33), 3) := by decide +kernel
theorem dX8_fillUsual_38 : decode cX8_fillUsual 38 = .ok (.return_, 1) := by decide +kernel
theorem dX8_tellLatest_0 : decode cX8_tellLatest 0 = .ok (.aload_n 0, 1) := by decide +kernel
theorem dX8_tellLatest_1 : decode cX8_tellLatest 1 = .ok (.getfield 18, 3) := by decide +kernel
theorem dX8_tellLatest_4 : decode cX8_tellLatest 4 = .ok (.iload_n 1, 1) := by decide +kernel
theorem dX8_tellLatest_5 : decode cX8_tellLatest 5 = .ok (.iaload, 1) := by decide +kernel
theorem dX8_tellLatest_6 : decode cX8_tellLatest 6 = .ok (.ifCond .le 27, 3) := by decide +kernel
theorem dX8_tellLatest_9 : decode cX8_tellLatest 9 = .ok (.aload_n 0, 1) := by decide +kernel
theorem dX8_tellLatest_10 : decode cX8_tellLatest 10 = .ok (.getfield 9, 3) := by decide +kernel
theorem dX8_tellLatest_13 : decode cX8_tellLatest 13 = .ok (.getstatic 40, 3) := by decide +kernel
theorem dX8_tellLatest_16 : decode cX8_tellLatest 16 = .ok (.iload_n 1, 1) := by decide +kernel
theorem dX8_tellLatest_17 : decode cX8_tellLatest 17 = .ok (.iaload, 1) := by decide +kernel
theorem dX8_tellLatest_18 : decode cX8_tellLatest 18 = .ok (.aload_n 0, 1) := by decide +kernel
theorem dX8_tellLatest_19 : decode cX8_tellLatest 19 = .ok (.getfield 18, 3) := by decide +kernel
theorem dX8_tellLatest_22 : decode cX8_tellLatest 22 = .ok (.iload_n 1, 1) := by decide +kernel
theorem dX8_tellLatest_23 : decode cX8_tellLatest 23 = .ok (.iaload, 1) := by decide +kernel
theorem dX8_tellLatest_24 : decode cX8_tellLatest 24 = .ok (.iadd, 1) := by decide +kernel
theorem dX8_tellLatest_25 : decode cX8_tellLatest 25 = .ok (.iconst 1, 1) := by decide +kernel
theorem dX8_tellLatest_26 : decode cX8_tellLatest 26 = .ok (.isub, 1) := by decide +kernel
theorem dX8_tellLatest_27 : decode cX8_tellLatest 27 = .ok (.iconst 3, 1) := by decide +kernel
theorem dX8_tellLatest_28 : decode cX8_tellLatest 28 = .ok (.imul, 1) := by decide +kernel
theorem dX8_tellLatest_29 : decode cX8_tellLatest 29 = .ok (.iload_n 2, 1) := by decide +kernel
theorem dX8_tellLatest_30 : decode cX8_tellLatest 30 = .ok (.iadd, 1) := by decide +kernel
theorem dX8_tellLatest_31 : decode cX8_tellLatest 31 = .ok (.iload_n 3, 1) := by decide +kernel
theorem dX8_tellLatest_32 : decode cX8_tellLatest 32 = .ok (.iastore, 1) := by decide +kernel
theorem dX8_tellLatest_33 : decode cX8_tellLatest 33 = .ok (.return_, 1) := by decide +kernel
theorem dX8_isWhole_0 : decode cX8_isWhole 0 = .ok (.aload_n 0, 1) := by decide +kernel
theorem dX8_isWhole_1 : decode cX8_isWhole 1 = .ok (.invokevirtual 46, 3) := by decide +kernel
theorem dX8_isWhole_4 : decode cX8_isWhole 4 = .ok (.ifCond .eq 10, 3) := by decide +kernel
theorem dX8_isWhole_7 : decode cX8_isWhole 7 = .ok (.aload_n 0, 1) := by decide +kernel
theorem dX8_isWhole_8 : decode cX8_isWhole 8 = .ok (.invokevirtual 50, 3) := by decide +kernel
theorem dX8_isWhole_11 : decode cX8_isWhole 11 = .ok (.ifCond .ne 5, 3) := by decide +kernel
theorem dX8_isWhole_14 : decode cX8_isWhole 14 = .ok (.iconst 0, 1) := by decide +kernel
theorem dX8_isWhole_15 : decode cX8_isWhole 15 = .ok (.ireturn, 1) := by decide +kernel
theorem dX8_isWhole_16 : decode cX8_isWhole 16 = .ok (.iconst 0, 1) := by decide +kernel
theorem dX8_isWhole_17 : decode cX8_isWhole 17 = .ok (.istore_n 1, 1) := by decide +kernel
theorem dX8_isWhole_18 : decode cX8_isWhole 18 = .ok (.iload_n 1, 1) := by decide +kernel
theorem dX8_isWhole_19 : decode cX8_isWhole 19 = .ok (.aload_n 0, 1) := by decide +kernel
theorem dX8_isWhole_20 : decode cX8_isWhole 20 = .ok (.invokevirtual 50, 3) := by decide +kernel
theorem dX8_isWhole_23 : decode cX8_isWhole 23 = .ok (.if_icmp .ge 23, 3) := by decide +kernel
theorem dX8_isWhole_26 : decode cX8_isWhole 26 = .ok (.aload_n 0, 1) := by decide +kernel
theorem dX8_isWhole_27 : decode cX8_isWhole 27 = .ok (.iload_n 1, 1) := by decide +kernel
theorem dX8_isWhole_28 : decode cX8_isWhole 28 = .ok (.invokevirtual 53, 3) := by decide +kernel
theorem dX8_isWhole_31 : decode cX8_isWhole 31 = .ok (.aload_n 0, 1) := by decide +kernel
theorem dX8_isWhole_32 : decode cX8_isWhole 32 = .ok (.invokevirtual 46, 3) := by decide +kernel
theorem dX8_isWhole_35 : decode cX8_isWhole 35 = .ok (.if_icmp .lt 5, 3) := by decide +kernel
theorem dX8_isWhole_38 : decode cX8_isWhole 38 = .ok (.iconst 0, 1) := by decide +kernel
theorem dX8_isWhole_39 : decode cX8_isWhole 39 = .ok (.ireturn, 1) := by decide +kernel
theorem dX8_isWhole_40 : decode cX8_isWhole 40 = .ok (.iinc 1 1, 3) := by decide +kernel
theorem dX8_isWhole_43 : decode cX8_isWhole 43 = .ok (.goto (-25), 3) := by decide +kernel
theorem dX8_isWhole_46 : decode cX8_isWhole 46 = .ok (.iconst 1, 1) := by decide +kernel
theorem dX8_isWhole_47 : decode cX8_isWhole 47 = .ok (.ireturn, 1) := by decide +kernel
theorem dX8_cell_0 : decode cX8_cell 0 = .ok (.iload_n 2, 1) := by decide +kernel
theorem dX8_cell_1 : decode cX8_cell 1 = .ok (.ifCond .lt 31, 3) := by decide +kernel
theorem dX8_cell_4 : decode cX8_cell 4 = .ok (.iload_n 2, 1) := by decide +kernel
theorem dX8_cell_5 : decode cX8_cell 5 = .ok (.getstatic 37, 3) := by decide +kernel
theorem dX8_cell_8 : decode cX8_cell 8 = .ok (.iload_n 1, 1) := by decide +kernel
theorem dX8_cell_9 : decode cX8_cell 9 = .ok (.iaload, 1) := by decide +kernel
theorem dX8_cell_10 : decode cX8_cell 10 = .ok (.if_icmp .ge 22, 3) := by decide +kernel
theorem dX8_cell_13 : decode cX8_cell 13 = .ok (.aload_n 0, 1) := by decide +kernel
theorem dX8_cell_14 : decode cX8_cell 14 = .ok (.getfield 9, 3) := by decide +kernel
theorem dX8_cell_17 : decode cX8_cell 17 = .ok (.getstatic 40, 3) := by decide +kernel
theorem dX8_cell_20 : decode cX8_cell 20 = .ok (.iload_n 1, 1) := by decide +kernel
theorem dX8_cell_21 : decode cX8_cell 21 = .ok (.iaload, 1) := by decide +kernel
theorem dX8_cell_22 : decode cX8_cell 22 = .ok (.iload_n 2, 1) := by decide +kernel
theorem dX8_cell_23 : decode cX8_cell 23 = .ok (.iadd, 1) := by decide +kernel
theorem dX8_cell_24 : decode cX8_cell 24 = .ok (.iconst 3, 1) := by decide +kernel
theorem dX8_cell_25 : decode cX8_cell 25 = .ok (.imul, 1) := by decide +kernel
theorem dX8_cell_26 : decode cX8_cell 26 = .ok (.iload_n 3, 1) := by decide +kernel
theorem dX8_cell_27 : decode cX8_cell 27 = .ok (.iadd, 1) := by decide +kernel
theorem dX8_cell_28 : decode cX8_cell 28 = .ok (.iaload, 1) := by decide +kernel
theorem dX8_cell_29 : decode cX8_cell 29 = .ok (.goto 4, 3) := by decide +kernel
theorem dX8_cell_32 : decode cX8_cell 32 = .ok (.iconst 0, 1) := by decide +kernel
theorem dX8_cell_33 : decode cX8_cell 33 = .ok (.ireturn, 1) := by decide +kernel
theorem dX8_stands_0 : decode cX8_stands 0 = .ok (.aload_n 0, 1) := by decide +kernel
theorem dX8_stands_1 : decode cX8_stands 1 = .ok (.invokevirtual 50, 3) := by decide +kernel
theorem dX8_stands_4 : decode cX8_stands 4 = .ok (.ifCond .le 7, 3) := by decide +kernel
theorem dX8_stands_7 : decode cX8_stands 7 = .ok (.iconst 1, 1) := by decide +kernel
theorem dX8_stands_8 : decode cX8_stands 8 = .ok (.goto 4, 3) := by decide +kernel
theorem dX8_stands_11 : decode cX8_stands 11 = .ok (.iconst 0, 1) := by decide +kernel
theorem dX8_stands_12 : decode cX8_stands 12 = .ok (.ireturn, 1) := by decide +kernel
theorem dX8_boys_0 : decode cX8_boys 0 = .ok (.aload_n 0, 1) := by decide +kernel
theorem dX8_boys_1 : decode cX8_boys 1 = .ok (.getfield 18, 3) := by decide +kernel
theorem dX8_boys_4 : decode cX8_boys 4 = .ok (.iconst 1, 1) := by decide +kernel
theorem dX8_boys_5 : decode cX8_boys 5 = .ok (.iaload, 1) := by decide +kernel
theorem dX8_boys_6 : decode cX8_boys 6 = .ok (.ireturn, 1) := by decide +kernel
theorem dX8_marbles_0 : decode cX8_marbles 0 = .ok (.aload_n 0, 1) := by decide +kernel
theorem dX8_marbles_1 : decode cX8_marbles 1 = .ok (.getfield 18, 3) := by decide +kernel
theorem dX8_marbles_4 : decode cX8_marbles 4 = .ok (.iconst 2, 1) := by decide +kernel
theorem dX8_marbles_5 : decode cX8_marbles 5 = .ok (.iaload, 1) := by decide +kernel
theorem dX8_marbles_6 : decode cX8_marbles 6 = .ok (.ireturn, 1) := by decide +kernel
theorem dX8_farms_0 : decode cX8_farms 0 = .ok (.aload_n 0, 1) := by decide +kernel
theorem dX8_farms_1 : decode cX8_farms 1 = .ok (.getfield 18, 3) := by decide +kernel
theorem dX8_farms_4 : decode cX8_farms 4 = .ok (.iconst 3, 1) := by decide +kernel
theorem dX8_farms_5 : decode cX8_farms 5 = .ok (.iaload, 1) := by decide +kernel
theorem dX8_farms_6 : decode cX8_farms 6 = .ok (.ireturn, 1) := by decide +kernel
theorem dX8_hasBoy_0 : decode cX8_hasBoy 0 = .ok (.iload_n 1, 1) := by decide +kernel
theorem dX8_hasBoy_1 : decode cX8_hasBoy 1 = .ok (.ifCond .lt 15, 3) := by decide +kernel
theorem dX8_hasBoy_4 : decode cX8_hasBoy 4 = .ok (.iload_n 1, 1) := by decide +kernel
theorem dX8_hasBoy_5 : decode cX8_hasBoy 5 = .ok (.aload_n 0, 1) := by decide +kernel
theorem dX8_hasBoy_6 : decode cX8_hasBoy 6 = .ok (.invokevirtual 46, 3) := by decide +kernel
theorem dX8_hasBoy_9 : decode cX8_hasBoy 9 = .ok (.if_icmp .ge 7, 3) := by decide +kernel
theorem dX8_hasBoy_12 : decode cX8_hasBoy 12 = .ok (.iconst 1, 1) := by decide +kernel
theorem dX8_hasBoy_13 : decode cX8_hasBoy 13 = .ok (.goto 4, 3) := by decide +kernel
theorem dX8_hasBoy_16 : decode cX8_hasBoy 16 = .ok (.iconst 0, 1) := by decide +kernel
theorem dX8_hasBoy_17 : decode cX8_hasBoy 17 = .ok (.ireturn, 1) := by decide +kernel
theorem dX8_hasMarble_0 : decode cX8_hasMarble 0 = .ok (.iload_n 1, 1) := by decide +kernel
theorem dX8_hasMarble_1 : decode cX8_hasMarble 1 = .ok (.ifCond .lt 15, 3) := by decide +kernel
theorem dX8_hasMarble_4 : decode cX8_hasMarble 4 = .ok (.iload_n 1, 1) := by decide +kernel
theorem dX8_hasMarble_5 : decode cX8_hasMarble 5 = .ok (.aload_n 0, 1) := by decide +kernel
theorem dX8_hasMarble_6 : decode cX8_hasMarble 6 = .ok (.invokevirtual 50, 3) := by decide +kernel
theorem dX8_hasMarble_9 : decode cX8_hasMarble 9 = .ok (.if_icmp .ge 7, 3) := by decide +kernel
theorem dX8_hasMarble_12 : decode cX8_hasMarble 12 = .ok (.iconst 1, 1) := by decide +kernel
theorem dX8_hasMarble_13 : decode cX8_hasMarble 13 = .ok (.goto 4, 3) := by decide +kernel
theorem dX8_hasMarble_16 : decode cX8_hasMarble 16 = .ok (.iconst 0, 1) := by decide +kernel
theorem dX8_hasMarble_17 : decode cX8_hasMarble 17 = .ok (.ireturn, 1) := by decide +kernel
theorem dX8_hasFarm_0 : decode cX8_hasFarm 0 = .ok (.iload_n 1, 1) := by decide +kernel
theorem dX8_hasFarm_1 : decode cX8_hasFarm 1 = .ok (.ifCond .lt 15, 3) := by decide +kernel
theorem dX8_hasFarm_4 : decode cX8_hasFarm 4 = .ok (.iload_n 1, 1) := by decide +kernel
theorem dX8_hasFarm_5 : decode cX8_hasFarm 5 = .ok (.aload_n 0, 1) := by decide +kernel
theorem dX8_hasFarm_6 : decode cX8_hasFarm 6 = .ok (.invokevirtual 57, 3) := by decide +kernel
theorem dX8_hasFarm_9 : decode cX8_hasFarm 9 = .ok (.if_icmp .ge 7, 3) := by decide +kernel
theorem dX8_hasFarm_12 : decode cX8_hasFarm 12 = .ok (.iconst 1, 1) := by decide +kernel
theorem dX8_hasFarm_13 : decode cX8_hasFarm 13 = .ok (.goto 4, 3) := by decide +kernel
theorem dX8_hasFarm_16 : decode cX8_hasFarm 16 = .ok (.iconst 0, 1) := by decide +kernel
theorem dX8_hasFarm_17 : decode cX8_hasFarm 17 = .ok (.ireturn, 1) := by decide +kernel
theorem dX8_hole_0 : decode cX8_hole 0 = .ok (.aload_n 0, 1) := by decide +kernel
theorem dX8_hole_1 : decode cX8_hole 1 = .ok (.iconst 0, 1) := by decide +kernel
theorem dX8_hole_2 : decode cX8_hole 2 = .ok (.iconst 0, 1) := by decide +kernel
theorem dX8_hole_3 : decode cX8_hole 3 = .ok (.iconst 0, 1) := by decide +kernel
theorem dX8_hole_4 : decode cX8_hole 4 = .ok (.invokevirtual 60, 3) := by decide +kernel
theorem dX8_hole_7 : decode cX8_hole 7 = .ok (.ireturn, 1) := by decide +kernel
theorem dX8_behind_0 : decode cX8_behind 0 = .ok (.aload_n 0, 1) := by decide +kernel
theorem dX8_behind_1 : decode cX8_behind 1 = .ok (.iconst 0, 1) := by decide +kernel
theorem dX8_behind_2 : decode cX8_behind 2 = .ok (.iconst 0, 1) := by decide +kernel
theorem dX8_behind_3 : decode cX8_behind 3 = .ok (.iconst 1, 1) := by decide +kernel
theorem dX8_behind_4 : decode cX8_behind 4 = .ok (.invokevirtual 60, 3) := by decide +kernel
theorem dX8_behind_7 : decode cX8_behind 7 = .ok (.ireturn, 1) := by decide +kernel
theorem dX8_firstSweets_0 : decode cX8_firstSweets 0 = .ok (.aload_n 0, 1) := by decide +kernel
theorem dX8_firstSweets_1 : decode cX8_firstSweets 1 = .ok (.iconst 0, 1) := by decide +kernel
theorem dX8_firstSweets_2 : decode cX8_firstSweets 2 = .ok (.iconst 0, 1) := by decide +kernel
theorem dX8_firstSweets_3 : decode cX8_firstSweets 3 = .ok (.iconst 2, 1) := by decide +kernel
theorem dX8_firstSweets_4 : decode cX8_firstSweets 4 = .ok (.invokevirtual 60, 3) := by decide +kernel
theorem dX8_firstSweets_7 : decode cX8_firstSweets 7 = .ok (.ireturn, 1) := by decide +kernel
theorem dX8_skill_0 : decode cX8_skill 0 = .ok (.aload_n 0, 1) := by decide +kernel
theorem dX8_skill_1 : decode cX8_skill 1 = .ok (.iconst 1, 1) := by decide +kernel
theorem dX8_skill_2 : decode cX8_skill 2 = .ok (.iload_n 1, 1) := by decide +kernel
theorem dX8_skill_3 : decode cX8_skill 3 = .ok (.iconst 0, 1) := by decide +kernel
theorem dX8_skill_4 : decode cX8_skill 4 = .ok (.invokevirtual 60, 3) := by decide +kernel
theorem dX8_skill_7 : decode cX8_skill 7 = .ok (.ireturn, 1) := by decide +kernel
theorem dX8_boyPlace_0 : decode cX8_boyPlace 0 = .ok (.aload_n 0, 1) := by decide +kernel
theorem dX8_boyPlace_1 : decode cX8_boyPlace 1 = .ok (.iconst 1, 1) := by decide +kernel
theorem dX8_boyPlace_2 : decode cX8_boyPlace 2 = .ok (.iload_n 1, 1) := by decide +kernel
theorem dX8_boyPlace_3 : decode cX8_boyPlace 3 = .ok (.iconst 1, 1) := by decide +kernel
theorem dX8_boyPlace_4 : decode cX8_boyPlace 4 = .ok (.invokevirtual 60, 3) := by decide +kernel
theorem dX8_boyPlace_7 : decode cX8_boyPlace 7 = .ok (.ireturn, 1) := by decide +kernel
theorem dX8_firstOwner_0 : decode cX8_firstOwner 0 = .ok (.aload_n 0, 1) := by decide +kernel
theorem dX8_firstOwner_1 : decode cX8_firstOwner 1 = .ok (.iconst 2, 1) := by decide +kernel
theorem dX8_firstOwner_2 : decode cX8_firstOwner 2 = .ok (.iload_n 1, 1) := by decide +kernel
theorem dX8_firstOwner_3 : decode cX8_firstOwner 3 = .ok (.iconst 0, 1) := by decide +kernel
theorem dX8_firstOwner_4 : decode cX8_firstOwner 4 = .ok (.invokevirtual 60, 3) := by decide +kernel
theorem dX8_firstOwner_7 : decode cX8_firstOwner 7 = .ok (.ireturn, 1) := by decide +kernel
theorem dX8_kind_0 : decode cX8_kind 0 = .ok (.aload_n 0, 1) := by decide +kernel
theorem dX8_kind_1 : decode cX8_kind 1 = .ok (.iconst 2, 1) := by decide +kernel
theorem dX8_kind_2 : decode cX8_kind 2 = .ok (.iload_n 1, 1) := by decide +kernel
theorem dX8_kind_3 : decode cX8_kind 3 = .ok (.iconst 1, 1) := by decide +kernel
theorem dX8_kind_4 : decode cX8_kind 4 = .ok (.invokevirtual 60, 3) := by decide +kernel
theorem dX8_kind_7 : decode cX8_kind 7 = .ok (.ireturn, 1) := by decide +kernel
theorem dX8_size_0 : decode cX8_size 0 = .ok (.aload_n 0, 1) := by decide +kernel
theorem dX8_size_1 : decode cX8_size 1 = .ok (.iconst 2, 1) := by decide +kernel
theorem dX8_size_2 : decode cX8_size 2 = .ok (.iload_n 1, 1) := by decide +kernel
theorem dX8_size_3 : decode cX8_size 3 = .ok (.iconst 2, 1) := by decide +kernel
theorem dX8_size_4 : decode cX8_size 4 = .ok (.invokevirtual 60, 3) := by decide +kernel
theorem dX8_size_7 : decode cX8_size 7 = .ok (.ireturn, 1) := by decide +kernel
theorem dX8_farmPlace_0 : decode cX8_farmPlace 0 = .ok (.aload_n 0, 1) := by decide +kernel
theorem dX8_farmPlace_1 : decode cX8_farmPlace 1 = .ok (.iconst 3, 1) := by decide +kernel
theorem dX8_farmPlace_2 : decode cX8_farmPlace 2 = .ok (.iload_n 1, 1) := by decide +kernel
theorem dX8_farmPlace_3 : decode cX8_farmPlace 3 = .ok (.iconst 0, 1) := by decide +kernel
theorem dX8_farmPlace_4 : decode cX8_farmPlace 4 = .ok (.invokevirtual 60, 3) := by decide +kernel
theorem dX8_farmPlace_7 : decode cX8_farmPlace 7 = .ok (.ireturn, 1) := by decide +kernel
theorem dX8_wanted_0 : decode cX8_wanted 0 = .ok (.aload_n 0, 1) := by decide +kernel
theorem dX8_wanted_1 : decode cX8_wanted 1 = .ok (.iconst 3, 1) := by decide +kernel
theorem dX8_wanted_2 : decode cX8_wanted 2 = .ok (.iload_n 1, 1) := by decide +kernel
theorem dX8_wanted_3 : decode cX8_wanted 3 = .ok (.iconst 1, 1) := by decide +kernel
theorem dX8_wanted_4 : decode cX8_wanted 4 = .ok (.invokevirtual 60, 3) := by decide +kernel
theorem dX8_wanted_7 : decode cX8_wanted 7 = .ok (.ireturn, 1) := by decide +kernel
theorem dX8_payment_0 : decode cX8_payment 0 = .ok (.aload_n 0, 1) := by decide +kernel
theorem dX8_payment_1 : decode cX8_payment 1 = .ok (.iconst 3, 1) := by decide +kernel
theorem dX8_payment_2 : decode cX8_payment 2 = .ok (.iload_n 1, 1) := by decide +kernel
theorem dX8_payment_3 : decode cX8_payment 3 = .ok (.iconst 2, 1) := by decide +kernel
theorem dX8_payment_4 : decode cX8_payment 4 = .ok (.invokevirtual 60, 3) := by decide +kernel
theorem dX8_payment_7 : decode cX8_payment 7 = .ok (.ireturn, 1) := by decide +kernel
theorem dX8_paymentOf_0 : decode cX8_paymentOf 0 = .ok (.iconst 0, 1) := by decide +kernel
theorem dX8_paymentOf_1 : decode cX8_paymentOf 1 = .ok (.istore_n 2, 1) := by decide +kernel
theorem dX8_paymentOf_2 : decode cX8_paymentOf 2 = .ok (.iconst 0, 1) := by decide +kernel
theorem dX8_paymentOf_3 : decode cX8_paymentOf 3 = .ok (.istore_n 3, 1) := by decide +kernel
theorem dX8_paymentOf_4 : decode cX8_paymentOf 4 = .ok (.iload_n 3, 1) := by decide +kernel
theorem dX8_paymentOf_5 : decode cX8_paymentOf 5 = .ok (.aload_n 0, 1) := by decide +kernel
theorem dX8_paymentOf_6 : decode cX8_paymentOf 6 = .ok (.invokevirtual 57, 3) := by decide +kernel
theorem dX8_paymentOf_9 : decode cX8_paymentOf 9 = .ok (.if_icmp .ge 23, 3) := by decide +kernel
theorem dX8_paymentOf_12 : decode cX8_paymentOf 12 = .ok (.iload_n 2, 1) := by decide +kernel
theorem dX8_paymentOf_13 : decode cX8_paymentOf 13 = .ok (.iload_n 1, 1) := by decide +kernel
theorem dX8_paymentOf_14 : decode cX8_paymentOf 14 = .ok (.iload_n 3, 1) := by decide +kernel
theorem dX8_paymentOf_15 : decode cX8_paymentOf 15 = .ok (.ishr, 1) := by decide +kernel
theorem dX8_paymentOf_16 : decode cX8_paymentOf 16 = .ok (.iconst 1, 1) := by decide +kernel
theorem dX8_paymentOf_17 : decode cX8_paymentOf 17 = .ok (.iand, 1) := by decide +kernel
theorem dX8_paymentOf_18 : decode cX8_paymentOf 18 = .ok (.aload_n 0, 1) := by decide +kernel
theorem dX8_paymentOf_19 : decode cX8_paymentOf 19 = .ok (.iload_n 3, 1) := by decide +kernel
theorem dX8_paymentOf_20 : decode cX8_paymentOf 20 = .ok (.invokevirtual 64, 3) := by decide +kernel
theorem dX8_paymentOf_23 : decode cX8_paymentOf 23 = .ok (.imul, 1) := by decide +kernel
theorem dX8_paymentOf_24 : decode cX8_paymentOf 24 = .ok (.iadd, 1) := by decide +kernel
theorem dX8_paymentOf_25 : decode cX8_paymentOf 25 = .ok (.istore_n 2, 1) := by decide +kernel
theorem dX8_paymentOf_26 : decode cX8_paymentOf 26 = .ok (.iinc 3 1, 3) := by decide +kernel
theorem dX8_paymentOf_29 : decode cX8_paymentOf 29 = .ok (.goto (-25), 3) := by decide +kernel
theorem dX8_paymentOf_32 : decode cX8_paymentOf 32 = .ok (.iload_n 2, 1) := by decide +kernel
theorem dX8_paymentOf_33 : decode cX8_paymentOf 33 = .ok (.ireturn, 1) := by decide +kernel
theorem dX9_init_0 : decode cX9_init 0 = .ok (.aload_n 0, 1) := by decide +kernel
theorem dX9_init_1 : decode cX9_init 1 = .ok (.invokespecial 3, 3) := by decide +kernel
theorem dX9_init_4 : decode cX9_init 4 = .ok (.aload_n 0, 1) := by decide +kernel
theorem dX9_init_5 : decode cX9_init 5 = .ok (.new 9, 3) := by decide +kernel
theorem dX9_init_8 : decode cX9_init 8 = .ok (.dup, 1) := by decide +kernel
theorem dX9_init_9 : decode cX9_init 9 = .ok (.invokespecial 11, 3) := by decide +kernel
theorem dX9_init_12 : decode cX9_init 12 = .ok (.putfield 12, 3) := by decide +kernel
theorem dX9_init_15 : decode cX9_init 15 = .ok (.aload_n 0, 1) := by decide +kernel
theorem dX9_init_16 : decode cX9_init 16 = .ok (.aload_n 1, 1) := by decide +kernel
theorem dX9_init_17 : decode cX9_init 17 = .ok (.putfield 18, 3) := by decide +kernel
theorem dX9_init_20 : decode cX9_init 20 = .ok (.return_, 1) := by decide +kernel
theorem dX9_draft_0 : decode cX9_draft 0 = .ok (.aload_n 0, 1) := by decide +kernel
theorem dX9_draft_1 : decode cX9_draft 1 = .ok (.getfield 12, 3) := by decide +kernel
theorem dX9_draft_4 : decode cX9_draft 4 = .ok (.areturn, 1) := by decide +kernel
theorem dX9_reads_0 : decode cX9_reads 0 = .ok (.aload_n 0, 1) := by decide +kernel
theorem dX9_reads_1 : decode cX9_reads 1 = .ok (.getfield 12, 3) := by decide +kernel
theorem dX9_reads_4 : decode cX9_reads 4 = .ok (.invokevirtual 22, 3) := by decide +kernel
theorem dX9_reads_7 : decode cX9_reads 7 = .ok (.aload_n 0, 1) := by decide +kernel
theorem dX9_reads_8 : decode cX9_reads 8 = .ok (.getfield 18, 3) := by decide +kernel
theorem dX9_reads_11 : decode cX9_reads 11 = .ok (.invokevirtual 25, 3) := by decide +kernel
theorem dX9_reads_14 : decode cX9_reads 14 = .ok (.iconst 1, 1) := by decide +kernel
theorem dX9_reads_15 : decode cX9_reads 15 = .ok (.istore_n 1, 1) := by decide +kernel
theorem dX9_reads_16 : decode cX9_reads 16 = .ok (.iconst 0, 1) := by decide +kernel
theorem dX9_reads_17 : decode cX9_reads 17 = .ok (.istore_n 2, 1) := by decide +kernel
theorem dX9_reads_18 : decode cX9_reads 18 = .ok (.iload_n 2, 1) := by decide +kernel
theorem dX9_reads_19 : decode cX9_reads 19 = .ok (.sipush 240, 3) := by decide +kernel
theorem dX9_reads_22 : decode cX9_reads 22 = .ok (.if_icmp .ge 32, 3) := by decide +kernel
theorem dX9_reads_25 : decode cX9_reads 25 = .ok (.iload_n 1, 1) := by decide +kernel
theorem dX9_reads_26 : decode cX9_reads 26 = .ok (.ifCond .eq 28, 3) := by decide +kernel
theorem dX9_reads_29 : decode cX9_reads 29 = .ok (.aload_n 0, 1) := by decide +kernel
theorem dX9_reads_30 : decode cX9_reads 30 = .ok (.invokevirtual 30, 3) := by decide +kernel
theorem dX9_reads_33 : decode cX9_reads 33 = .ok (.ifCond .ne 5, 3) := by decide +kernel
theorem dX9_reads_36 : decode cX9_reads 36 = .ok (.iconst 0, 1) := by decide +kernel
theorem dX9_reads_37 : decode cX9_reads 37 = .ok (.ireturn, 1) := by decide +kernel
theorem dX9_reads_38 : decode cX9_reads 38 = .ok (.aload_n 0, 1) := by decide +kernel
theorem dX9_reads_39 : decode cX9_reads 39 = .ok (.getfield 18, 3) := by decide +kernel
theorem dX9_reads_42 : decode cX9_reads 42 = .ok (.bipush 59, 2) := by decide +kernel
theorem dX9_reads_44 : decode cX9_reads 44 = .ok (.invokevirtual 34, 3) := by decide +kernel
theorem dX9_reads_47 : decode cX9_reads 47 = .ok (.istore_n 1, 1) := by decide +kernel
theorem dX9_reads_48 : decode cX9_reads 48 = .ok (.iinc 2 1, 3) := by decide +kernel
theorem dX9_reads_51 : decode cX9_reads 51 = .ok (.goto (-33), 3) := by decide +kernel
theorem dX9_reads_54 : decode cX9_reads 54 = .ok (.aload_n 0, 1) := by decide +kernel
theorem dX9_reads_55 : decode cX9_reads 55 = .ok (.getfield 18, 3) := by decide +kernel
theorem dX9_reads_58 : decode cX9_reads 58 = .ok (.invokevirtual 38, 3) := by decide +kernel
theorem dX9_reads_61 : decode cX9_reads 61 = .ok (.iconst (-1), 1) := by decide +kernel
theorem dX9_reads_62 : decode cX9_reads 62 = .ok (.if_icmp .ne 17, 3) := by decide +kernel
theorem dX9_reads_65 : decode cX9_reads 65 = .ok (.aload_n 0, 1) := by decide +kernel
theorem dX9_reads_66 : decode cX9_reads 66 = .ok (.getfield 12, 3) := by decide +kernel
theorem dX9_reads_69 : decode cX9_reads 69 = .ok (.invokevirtual 42, 3) := by decide +kernel
theorem dX9_reads_72 : decode cX9_reads 72 = .ok (.ifCond .eq 7, 3) := by decide +kernel
theorem dX9_reads_75 : decode cX9_reads 75 = .ok (.iconst 1, 1) := by decide +kernel
theorem dX9_reads_76 : decode cX9_reads 76 = .ok (.goto 4, 3) := by decide +kernel
theorem dX9_reads_79 : decode cX9_reads 79 = .ok (.iconst 0, 1) := by decide +kernel
theorem dX9_reads_80 : decode cX9_reads 80 = .ok (.ireturn, 1) := by decide +kernel
theorem dX9_readClause_0 : decode cX9_readClause 0 = .ok (.aload_n 0, 1) := by decide +kernel
theorem dX9_readClause_1 : decode cX9_readClause 1 = .ok (.getfield 18, 3) := by decide +kernel
theorem dX9_readClause_4 : decode cX9_readClause 4 = .ok (.invokevirtual 38, 3) := by decide +kernel
theorem dX9_readClause_7 : decode cX9_readClause 7 = .ok (.invokestatic 45, 3) := by decide +kernel
theorem dX9_readClause_10 : decode cX9_readClause 10 = .ok (.istore_n 1, 1) := by decide +kernel
theorem dX9_readClause_11 : decode cX9_readClause 11 = .ok (.iload_n 1, 1) := by decide +kernel
theorem dX9_readClause_12 : decode cX9_readClause 12 = .ok (.iconst (-1), 1) := by decide +kernel
theorem dX9_readClause_13 : decode cX9_readClause 13 = .ok (.if_icmp .eq 14, 3) := by decide +kernel
theorem dX9_readClause_16 : decode cX9_readClause 16 = .ok (.aload_n 0, 1) := by decide +kernel
theorem dX9_readClause_17 : decode cX9_readClause 17 = .ok (.getfield 12, 3) := by decide +kernel
theorem dX9_readClause_20 : decode cX9_readClause 20 = .ok (.iload_n 1, 1) := by decide +kernel
theorem dX9_readClause_21 : decode cX9_readClause 21 = .ok (.invokevirtual 49, 3) := by decide +kernel
theorem dX9_readClause_24 : decode cX9_readClause 24 = .ok (.ifCond .ne 5, 3) := by decide +kernel
theorem dX9_readClause_27 : decode cX9_readClause 27 = .ok (.iconst 0, 1) := by decide +kernel
theorem dX9_readClause_28 : decode cX9_readClause 28 = .ok (.ireturn, 1) := by decide +kernel
theorem dX9_readClause_29 : decode cX9_readClause 29 = .ok (.aload_n 0, 1) := by decide +kernel
theorem dX9_readClause_30 : decode cX9_readClause 30 = .ok (.getfield 18, 3) := by decide +kernel
theorem dX9_readClause_33 : decode cX9_readClause 33 = .ok (.invokevirtual 52, 3) := by decide +kernel
theorem dX9_readClause_36 : decode cX9_readClause 36 = .ok (.iconst 0, 1) := by decide +kernel
theorem dX9_readClause_37 : decode cX9_readClause 37 = .ok (.istore_n 2, 1) := by decide +kernel
theorem dX9_readClause_38 : decode cX9_readClause 38 = .ok (.iconst 0, 1) := by decide +kernel
theorem dX9_readClause_39 : decode cX9_readClause 39 = .ok (.istore_n 3, 1) := by decide +kernel
theorem dX9_readClause_40 : decode cX9_readClause 40 = .ok (.iload_n 3, 1) := by decide +kernel
theorem dX9_readClause_41 : decode cX9_readClause 41 = .ok (.iconst 3, 1) := by decide +kernel
theorem dX9_readClause_42 : decode cX9_readClause 42 = .ok (.if_icmp .ge 65, 3) := by decide +kernel
theorem dX9_readClause_45 : decode cX9_readClause 45 = .ok (.iload_n 1, 1) := by decide +kernel
theorem dX9_readClause_46 : decode cX9_readClause 46 = .ok (.aload_n 0, 1) := by decide +kernel
theorem dX9_readClause_47 : decode cX9_readClause 47 = .ok (.getfield 18, 3) := by decide +kernel
theorem dX9_readClause_50 : decode cX9_readClause 50 = .ok (.invokevirtual 38, 3) := by decide +kernel
theorem dX9_readClause_53 : decode cX9_readClause 53 = .ok (.invokestatic 55, 3) := by decide +kernel
theorem dX9_readClause_56 : decode cX9_readClause 56 = .ok (.istore 4, 2) := by decide +kernel
theorem dX9_readClause_58 : decode cX9_readClause 58 = .ok (.iload 4, 2) := by decide +kernel
theorem dX9_readClause_60 : decode cX9_readClause 60 = .ok (.iconst (-1), 1) := by decide +kernel
theorem dX9_readClause_61 : decode cX9_readClause 61 = .ok (.if_icmp .eq 12, 3) := by decide +kernel
theorem dX9_readClause_64 : decode cX9_readClause 64 = .ok (.iload_n 2, 1) := by decide +kernel
theorem dX9_readClause_65 : decode cX9_readClause 65 = .ok (.iload 4, 2) := by decide +kernel
theorem dX9_readClause_67 : decode cX9_readClause 67 = .ok (.ishr, 1) := by decide +kernel
theorem dX9_readClause_68 : decode cX9_readClause 68 = .ok (.iconst 1, 1) := by decide +kernel
theorem dX9_readClause_69 : decode cX9_readClause 69 = .ok (.iand, 1) := by decide +kernel
theorem dX9_readClause_70 : decode cX9_readClause 70 = .ok (.ifCond .eq 5, 3) := by decide +kernel
theorem dX9_readClause_73 : decode cX9_readClause 73 = .ok (.iconst 1, 1) := by decide +kernel
theorem dX9_readClause_74 : decode cX9_readClause 74 = .ok (.ireturn, 1) := by decide +kernel
theorem dX9_readClause_75 : decode cX9_readClause 75 = .ok (.iload_n 2, 1) := by decide +kernel
theorem dX9_readClause_76 : decode cX9_readClause 76 = .ok (.iconst 1, 1) := by decide +kernel
theorem dX9_readClause_77 : decode cX9_readClause 77 = .ok (.iload 4, 2) := by decide +kernel
theorem dX9_readClause_79 : decode cX9_readClause 79 = .ok (.ishl, 1) := by decide +kernel
theorem dX9_readClause_80 : decode cX9_readClause 80 = .ok (.ior, 1) := by decide +kernel
theorem dX9_readClause_81 : decode cX9_readClause 81 = .ok (.istore_n 2, 1) := by decide +kernel
theorem dX9_readClause_82 : decode cX9_readClause 82 = .ok (.aload_n 0, 1) := by decide +kernel
theorem dX9_readClause_83 : decode cX9_readClause 83 = .ok (.getfield 18, 3) := by decide +kernel
theorem dX9_readClause_86 : decode cX9_readClause 86 = .ok (.invokevirtual 52, 3) := by decide +kernel
theorem dX9_readClause_89 : decode cX9_readClause 89 = .ok (.aload_n 0, 1) := by decide +kernel
theorem dX9_readClause_90 : decode cX9_readClause 90 = .ok (.iload_n 1, 1) := by decide +kernel
theorem dX9_readClause_91 : decode cX9_readClause 91 = .ok (.iload 4, 2) := by decide +kernel
theorem dX9_readClause_93 : decode cX9_readClause 93 = .ok (.invokevirtual 59, 3) := by decide +kernel
theorem dX9_readClause_96 : decode cX9_readClause 96 = .ok (.ifCond .ne 5, 3) := by decide +kernel
theorem dX9_readClause_99 : decode cX9_readClause 99 = .ok (.iconst 0, 1) := by decide +kernel
theorem dX9_readClause_100 : decode cX9_readClause 100 = .ok (.ireturn, 1) := by decide +kernel
theorem dX9_readClause_101 : decode cX9_readClause 101 = .ok (.iinc 3 1, 3) := by decide +kernel
theorem dX9_readClause_104 : decode cX9_readClause 104 = .ok (.goto (-64), 3) := by decide +kernel
theorem dX9_readClause_107 : decode cX9_readClause 107 = .ok (.iconst 1, 1) := by decide +kernel
theorem dX9_readClause_108 : decode cX9_readClause 108 = .ok (.ireturn, 1) := by decide +kernel
theorem dX9_readValue_0 : decode cX9_readValue 0 = .ok (.aload_n 0, 1) := by decide +kernel
theorem dX9_readValue_1 : decode cX9_readValue 1 = .ok (.getfield 18, 3) := by decide +kernel
theorem dX9_readValue_4 : decode cX9_readValue 4 = .ok (.iconst 2, 1) := by decide +kernel
theorem dX9_readValue_5 : decode cX9_readValue 5 = .ok (.invokevirtual 63, 3) := by decide +kernel
theorem dX9_readValue_8 : decode cX9_readValue 8 = .ok (.istore_n 3, 1) := by decide +kernel
theorem dX9_readValue_9 : decode cX9_readValue 9 = .ok (.iload_n 3, 1) := by decide +kernel
theorem dX9_readValue_10 : decode cX9_readValue 10 = .ok (.iconst (-1), 1) := by decide +kernel
theorem dX9_readValue_11 : decode cX9_readValue 11 = .ok (.if_icmp .ne 5, 3) := by decide +kernel
theorem dX9_readValue_14 : decode cX9_readValue 14 = .ok (.iconst 0, 1) := by decide +kernel
theorem dX9_readValue_15 : decode cX9_readValue 15 = .ok (.ireturn, 1) := by decide +kernel
theorem dX9_readValue_16 : decode cX9_readValue 16 = .ok (.iload_n 3, 1) := by decide +kernel
theorem dX9_readValue_17 : decode cX9_readValue 17 = .ok (.getstatic 66, 3) := by decide +kernel
theorem dX9_readValue_20 : decode cX9_readValue 20 = .ok (.iload_n 1, 1) := by decide +kernel
theorem dX9_readValue_21 : decode cX9_readValue 21 = .ok (.iconst 3, 1) := by decide +kernel
theorem dX9_readValue_22 : decode cX9_readValue 22 = .ok (.imul, 1) := by decide +kernel
theorem dX9_readValue_23 : decode cX9_readValue 23 = .ok (.iload_n 2, 1) := by decide +kernel
theorem dX9_readValue_24 : decode cX9_readValue 24 = .ok (.iadd, 1) := by decide +kernel
theorem dX9_readValue_25 : decode cX9_readValue 25 = .ok (.iaload, 1) := by decide +kernel
theorem dX9_readValue_26 : decode cX9_readValue 26 = .ok (.if_icmp .lt 16, 3) := by decide +kernel
theorem dX9_readValue_29 : decode cX9_readValue 29 = .ok (.iload_n 3, 1) := by decide +kernel
theorem dX9_readValue_30 : decode cX9_readValue 30 = .ok (.getstatic 70, 3) := by decide +kernel
theorem dX9_readValue_33 : decode cX9_readValue 33 = .ok (.iload_n 1, 1) := by decide +kernel
theorem dX9_readValue_34 : decode cX9_readValue 34 = .ok (.iconst 3, 1) := by decide +kernel
theorem dX9_readValue_35 : decode cX9_readValue 35 = .ok (.imul, 1) := by decide +kernel
theorem dX9_readValue_36 : decode cX9_readValue 36 = .ok (.iload_n 2, 1) := by decide +kernel
theorem dX9_readValue_37 : decode cX9_readValue 37 = .ok (.iadd, 1) := by decide +kernel
theorem dX9_readValue_38 : decode cX9_readValue 38 = .ok (.iaload, 1) := by decide +kernel
theorem dX9_readValue_39 : decode cX9_readValue 39 = .ok (.if_icmp .le 12, 3) := by decide +kernel
theorem dX9_readValue_42 : decode cX9_readValue 42 = .ok (.aload_n 0, 1) := by decide +kernel
theorem dX9_readValue_43 : decode cX9_readValue 43 = .ok (.getfield 18, 3) := by decide +kernel
theorem dX9_readValue_46 : decode cX9_readValue 46 = .ok (.invokevirtual 73, 3) := by decide +kernel
theorem dX9_readValue_49 : decode cX9_readValue 49 = .ok (.iconst 0, 1) := by decide +kernel
theorem dX9_readValue_50 : decode cX9_readValue 50 = .ok (.ireturn, 1) := by decide +kernel
theorem dX9_readValue_51 : decode cX9_readValue 51 = .ok (.aload_n 0, 1) := by decide +kernel
theorem dX9_readValue_52 : decode cX9_readValue 52 = .ok (.getfield 12, 3) := by decide +kernel
theorem dX9_readValue_55 : decode cX9_readValue 55 = .ok (.iload_n 1, 1) := by decide +kernel
theorem dX9_readValue_56 : decode cX9_readValue 56 = .ok (.iload_n 2, 1) := by decide +kernel
theorem dX9_readValue_57 : decode cX9_readValue 57 = .ok (.iload_n 3, 1) := by decide +kernel
theorem dX9_readValue_58 : decode cX9_readValue 58 = .ok (.invokevirtual 76, 3) := by decide +kernel
theorem dX9_readValue_61 : decode cX9_readValue 61 = .ok (.iconst 1, 1) := by decide +kernel
theorem dX9_readValue_62 : decode cX9_readValue 62 = .ok (.ireturn, 1) := by decide +kernel
theorem dX9_sortOf_0 : decode cX9_sortOf 0 = .ok (.iconst 0, 1) := by decide +kernel
theorem dX9_sortOf_1 : decode cX9_sortOf 1 = .ok (.istore_n 1, 1) := by decide +kernel
theorem dX9_sortOf_2 : decode cX9_sortOf 2 = .ok (.iload_n 1, 1) := by decide +kernel
theorem dX9_sortOf_3 : decode cX9_sortOf 3 = .ok (.getstatic 80, 3) := by decide +kernel
theorem dX9_sortOf_6 : decode cX9_sortOf 6 = .ok (.arraylength, 1) := by decide +kernel
theorem dX9_sortOf_7 : decode cX9_sortOf 7 = .ok (.if_icmp .ge 20, 3) := by decide +kernel
theorem dX9_sortOf_10 : decode cX9_sortOf 10 = .ok (.getstatic 80, 3) := by decide +kernel
theorem dX9_sortOf_13 : decode cX9_sortOf 13 = .ok (.iload_n 1, 1) := by decide +kernel
theorem dX9_sortOf_14 : decode cX9_sortOf 14 = .ok (.iaload, 1) := by decide +kernel
theorem dX9_sortOf_15 : decode cX9_sortOf 15 = .ok (.iload_n 0, 1) := by decide +kernel
theorem dX9_sortOf_16 : decode cX9_sortOf 16 = .ok (.if_icmp .ne 5, 3) := by decide +kernel
theorem dX9_sortOf_19 : decode cX9_sortOf 19 = .ok (.iload_n 1, 1) := by decide +kernel
theorem dX9_sortOf_20 : decode cX9_sortOf 20 = .ok (.ireturn, 1) := by decide +kernel
theorem dX9_sortOf_21 : decode cX9_sortOf 21 = .ok (.iinc 1 1, 3) := by decide +kernel
theorem dX9_sortOf_24 : decode cX9_sortOf 24 = .ok (.goto (-22), 3) := by decide +kernel
theorem dX9_sortOf_27 : decode cX9_sortOf 27 = .ok (.iconst (-1), 1) := by decide +kernel
theorem dX9_sortOf_28 : decode cX9_sortOf 28 = .ok (.ireturn, 1) := by decide +kernel
theorem dX9_itemOf_0 : decode cX9_itemOf 0 = .ok (.iconst 0, 1) := by decide +kernel
theorem dX9_itemOf_1 : decode cX9_itemOf 1 = .ok (.istore_n 2, 1) := by decide +kernel
theorem dX9_itemOf_2 : decode cX9_itemOf 2 = .ok (.iload_n 2, 1) := by decide +kernel
theorem dX9_itemOf_3 : decode cX9_itemOf 3 = .ok (.iconst 3, 1) := by decide +kernel
theorem dX9_itemOf_4 : decode cX9_itemOf 4 = .ok (.if_icmp .ge 24, 3) := by decide +kernel
theorem dX9_itemOf_7 : decode cX9_itemOf 7 = .ok (.getstatic 83, 3) := by decide +kernel
theorem dX9_itemOf_10 : decode cX9_itemOf 10 = .ok (.iload_n 0, 1) := by decide +kernel
theorem dX9_itemOf_11 : decode cX9_itemOf 11 = .ok (.iconst 3, 1) := by decide +kernel
theorem dX9_itemOf_12 : decode cX9_itemOf 12 = .ok (.imul, 1) := by decide +kernel
theorem dX9_itemOf_13 : decode cX9_itemOf 13 = .ok (.iload_n 2, 1) := by decide +kernel
theorem dX9_itemOf_14 : decode cX9_itemOf 14 = .ok (.iadd, 1) := by decide +kernel
theorem dX9_itemOf_15 : decode cX9_itemOf 15 = .ok (.iaload, 1) := by decide +kernel
theorem dX9_itemOf_16 : decode cX9_itemOf 16 = .ok (.iload_n 1, 1) := by decide +kernel
theorem dX9_itemOf_17 : decode cX9_itemOf 17 = .ok (.if_icmp .ne 5, 3) := by decide +kernel
theorem dX9_itemOf_20 : decode cX9_itemOf 20 = .ok (.iload_n 2, 1) := by decide +kernel
theorem dX9_itemOf_21 : decode cX9_itemOf 21 = .ok (.ireturn, 1) := by decide +kernel
theorem dX9_itemOf_22 : decode cX9_itemOf 22 = .ok (.iinc 2 1, 3) := by decide +kernel
theorem dX9_itemOf_25 : decode cX9_itemOf 25 = .ok (.goto (-23), 3) := by decide +kernel
theorem dX9_itemOf_28 : decode cX9_itemOf 28 = .ok (.iconst (-1), 1) := by decide +kernel
theorem dX9_itemOf_29 : decode cX9_itemOf 29 = .ok (.ireturn, 1) := by decide +kernel
theorem dX10_init_0 : decode cX10_init 0 = .ok (.aload_n 0, 1) := by decide +kernel
theorem dX10_init_1 : decode cX10_init 1 = .ok (.invokespecial 1, 3) := by decide +kernel
theorem dX10_init_4 : decode cX10_init 4 = .ok (.aload_n 0, 1) := by decide +kernel
theorem dX10_init_5 : decode cX10_init 5 = .ok (.new 7, 3) := by decide +kernel
theorem dX10_init_8 : decode cX10_init 8 = .ok (.dup, 1) := by decide +kernel
theorem dX10_init_9 : decode cX10_init 9 = .ok (.invokespecial 9, 3) := by decide +kernel
theorem dX10_init_12 : decode cX10_init 12 = .ok (.putfield 10, 3) := by decide +kernel
theorem dX10_init_15 : decode cX10_init 15 = .ok (.aload_n 0, 1) := by decide +kernel
theorem dX10_init_16 : decode cX10_init 16 = .ok (.new 16, 3) := by decide +kernel
theorem dX10_init_19 : decode cX10_init 19 = .ok (.dup, 1) := by decide +kernel
theorem dX10_init_20 : decode cX10_init 20 = .ok (.aload_n 0, 1) := by decide +kernel
theorem dX10_init_21 : decode cX10_init 21 = .ok (.getfield 10, 3) := by decide +kernel
theorem dX10_init_24 : decode cX10_init 24 = .ok (.invokespecial 18, 3) := by decide +kernel
theorem dX10_init_27 : decode cX10_init 27 = .ok (.putfield 21, 3) := by decide +kernel
theorem dX10_init_30 : decode cX10_init 30 = .ok (.aload_n 0, 1) := by decide +kernel
theorem dX10_init_31 : decode cX10_init 31 = .ok (.new 25, 3) := by decide +kernel
theorem dX10_init_34 : decode cX10_init 34 = .ok (.dup, 1) := by decide +kernel
theorem dX10_init_35 : decode cX10_init 35 = .ok (.aload_n 0, 1) := by decide +kernel
theorem dX10_init_36 : decode cX10_init 36 = .ok (.getfield 10, 3) := by decide +kernel
theorem dX10_init_39 : decode cX10_init 39 = .ok (.invokespecial 27, 3) := by decide +kernel
theorem dX10_init_42 : decode cX10_init 42 = .ok (.putfield 28, 3) := by decide +kernel
theorem dX10_init_45 : decode cX10_init 45 = .ok (.aload_n 0, 1) := by decide +kernel
theorem dX10_init_46 : decode cX10_init 46 = .ok (.new 32, 3) := by decide +kernel
theorem dX10_init_49 : decode cX10_init 49 = .ok (.dup, 1) := by decide +kernel
theorem dX10_init_50 : decode cX10_init 50 = .ok (.invokespecial 34, 3) := by decide +kernel
theorem dX10_init_53 : decode cX10_init 53 = .ok (.putfield 35, 3) := by decide +kernel
theorem dX10_init_56 : decode cX10_init 56 = .ok (.aload_n 0, 1) := by decide +kernel
theorem dX10_init_57 : decode cX10_init 57 = .ok (.new 39, 3) := by decide +kernel
theorem dX10_init_60 : decode cX10_init 60 = .ok (.dup, 1) := by decide +kernel
theorem dX10_init_61 : decode cX10_init 61 = .ok (.invokespecial 41, 3) := by decide +kernel
theorem dX10_init_64 : decode cX10_init 64 = .ok (.putfield 42, 3) := by decide +kernel
theorem dX10_init_67 : decode cX10_init 67 = .ok (.aload_n 0, 1) := by decide +kernel
theorem dX10_init_68 : decode cX10_init 68 = .ok (.new 46, 3) := by decide +kernel
theorem dX10_init_71 : decode cX10_init 71 = .ok (.dup, 1) := by decide +kernel
theorem dX10_init_72 : decode cX10_init 72 = .ok (.invokespecial 48, 3) := by decide +kernel
theorem dX10_init_75 : decode cX10_init 75 = .ok (.putfield 49, 3) := by decide +kernel
theorem dX10_init_78 : decode cX10_init 78 = .ok (.aload_n 0, 1) := by decide +kernel
theorem dX10_init_79 : decode cX10_init 79 = .ok (.new 53, 3) := by decide +kernel
theorem dX10_init_82 : decode cX10_init 82 = .ok (.dup, 1) := by decide +kernel
theorem dX10_init_83 : decode cX10_init 83 = .ok (.aload_n 0, 1) := by decide +kernel
theorem dX10_init_84 : decode cX10_init 84 = .ok (.getfield 49, 3) := by decide +kernel
theorem dX10_init_87 : decode cX10_init 87 = .ok (.invokespecial 55, 3) := by decide +kernel
theorem dX10_init_90 : decode cX10_init 90 = .ok (.putfield 58, 3) := by decide +kernel
theorem dX10_init_93 : decode cX10_init 93 = .ok (.aload_n 0, 1) := by decide +kernel
theorem dX10_init_94 : decode cX10_init 94 = .ok (.new 62, 3) := by decide +kernel
theorem dX10_init_97 : decode cX10_init 97 = .ok (.dup, 1) := by decide +kernel
theorem dX10_init_98 : decode cX10_init 98 = .ok (.aload_n 0, 1) := by decide +kernel
theorem dX10_init_99 : decode cX10_init 99 = .ok (.getfield 42, 3) := by decide +kernel
theorem dX10_init_102 : decode cX10_init 102 = .ok (.aload_n 0, 1) := by decide +kernel
theorem dX10_init_103 : decode cX10_init 103 = .ok (.getfield 49, 3) := by decide +kernel
theorem dX10_init_106 : decode cX10_init 106 = .ok (.invokespecial 64, 3) := by decide +kernel
theorem dX10_init_109 : decode cX10_init 109 = .ok (.putfield 67, 3) := by decide +kernel
theorem dX10_init_112 : decode cX10_init 112 = .ok (.aload_n 0, 1) := by decide +kernel
theorem dX10_init_113 : decode cX10_init 113 = .ok (.new 71, 3) := by decide +kernel
theorem dX10_init_116 : decode cX10_init 116 = .ok (.dup, 1) := by decide +kernel
theorem dX10_init_117 : decode cX10_init 117 = .ok (.aload_n 0, 1) := by decide +kernel
theorem dX10_init_118 : decode cX10_init 118 = .ok (.getfield 42, 3) := by decide +kernel
theorem dX10_init_121 : decode cX10_init 121 = .ok (.aload_n 0, 1) := by decide +kernel
theorem dX10_init_122 : decode cX10_init 122 = .ok (.getfield 49, 3) := by decide +kernel
theorem dX10_init_125 : decode cX10_init 125 = .ok (.aload_n 0, 1) := by decide +kernel
theorem dX10_init_126 : decode cX10_init 126 = .ok (.getfield 67, 3) := by decide +kernel
theorem dX10_init_129 : decode cX10_init 129 = .ok (.invokespecial 73, 3) := by decide +kernel
theorem dX10_init_132 : decode cX10_init 132 = .ok (.putfield 76, 3) := by decide +kernel
theorem dX10_init_135 : decode cX10_init 135 = .ok (.aload_n 0, 1) := by decide +kernel
theorem dX10_init_136 : decode cX10_init 136 = .ok (.new 80, 3) := by decide +kernel
theorem dX10_init_139 : decode cX10_init 139 = .ok (.dup, 1) := by decide +kernel
theorem dX10_init_140 : decode cX10_init 140 = .ok (.aload_n 0, 1) := by decide +kernel
theorem dX10_init_141 : decode cX10_init 141 = .ok (.getfield 42, 3) := by decide +kernel
theorem dX10_init_144 : decode cX10_init 144 = .ok (.aload_n 0, 1) := by decide +kernel
theorem dX10_init_145 : decode cX10_init 145 = .ok (.getfield 49, 3) := by decide +kernel
theorem dX10_init_148 : decode cX10_init 148 = .ok (.aload_n 0, 1) := by decide +kernel
theorem dX10_init_149 : decode cX10_init 149 = .ok (.getfield 35, 3) := by decide +kernel
theorem dX10_init_152 : decode cX10_init 152 = .ok (.invokespecial 82, 3) := by decide +kernel
theorem dX10_init_155 : decode cX10_init 155 = .ok (.putfield 85, 3) := by decide +kernel
theorem dX10_init_158 : decode cX10_init 158 = .ok (.aload_n 0, 1) := by decide +kernel
theorem dX10_init_159 : decode cX10_init 159 = .ok (.iconst 5, 1) := by decide +kernel
theorem dX10_init_160 : decode cX10_init 160 = .ok (.newarray .int, 2) := by decide +kernel
theorem dX10_init_162 : decode cX10_init 162 = .ok (.putfield 89, 3) := by decide +kernel
theorem dX10_init_165 : decode cX10_init 165 = .ok (.return_, 1) := by decide +kernel
theorem dX10_feed_0 : decode cX10_feed 0 = .ok (.iload_n 1, 1) := by decide +kernel
theorem dX10_feed_1 : decode cX10_feed 1 = .ok (.invokestatic 93, 3) := by decide +kernel
theorem dX10_feed_4 : decode cX10_feed 4 = .ok (.iload_n 2, 1) := by decide +kernel
theorem dX10_feed_5 : decode cX10_feed 5 = .ok (.invokestatic 93, 3) := by decide +kernel
theorem dX10_feed_8 : decode cX10_feed 8 = .ok (.iadd, 1) := by decide +kernel
theorem dX10_feed_9 : decode cX10_feed 9 = .ok (.iload_n 3, 1) := by decide +kernel
theorem dX10_feed_10 : decode cX10_feed 10 = .ok (.invokestatic 93, 3) := by decide +kernel
theorem dX10_feed_13 : decode cX10_feed 13 = .ok (.iadd, 1) := by decide +kernel
theorem dX10_feed_14 : decode cX10_feed 14 = .ok (.iload 4, 2) := by decide +kernel
theorem dX10_feed_16 : decode cX10_feed 16 = .ok (.invokestatic 93, 3) := by decide +kernel
theorem dX10_feed_19 : decode cX10_feed 19 = .ok (.iadd, 1) := by decide +kernel
theorem dX10_feed_20 : decode cX10_feed 20 = .ok (.iload 5, 2) := by decide +kernel
theorem dX10_feed_22 : decode cX10_feed 22 = .ok (.invokestatic 93, 3) := by decide +kernel
theorem dX10_feed_25 : decode cX10_feed 25 = .ok (.iadd, 1) := by decide +kernel
theorem dX10_feed_26 : decode cX10_feed 26 = .ok (.istore 6, 2) := by decide +kernel
theorem dX10_feed_28 : decode cX10_feed 28 = .ok (.aload_n 0, 1) := by decide +kernel
theorem dX10_feed_29 : decode cX10_feed 29 = .ok (.getfield 10, 3) := by decide +kernel
theorem dX10_feed_32 : decode cX10_feed 32 = .ok (.invokevirtual 97, 3) := by decide +kernel
theorem dX10_feed_35 : decode cX10_feed 35 = .ok (.iload 6, 2) := by decide +kernel
theorem dX10_feed_37 : decode cX10_feed 37 = .ok (.iadd, 1) := by decide +kernel
theorem dX10_feed_38 : decode cX10_feed 38 = .ok (.sipush 240, 3) := by decide +kernel
theorem dX10_feed_41 : decode cX10_feed 41 = .ok (.if_icmp .le 5, 3) := by decide +kernel
theorem dX10_feed_44 : decode cX10_feed 44 = .ok (.iconst (-1), 1) := by decide +kernel
theorem dX10_feed_45 : decode cX10_feed 45 = .ok (.ireturn, 1) := by decide +kernel
theorem dX10_feed_46 : decode cX10_feed 46 = .ok (.aload_n 0, 1) := by decide +kernel
theorem dX10_feed_47 : decode cX10_feed 47 = .ok (.getfield 10, 3) := by decide +kernel
theorem dX10_feed_50 : decode cX10_feed 50 = .ok (.iload_n 1, 1) := by decide +kernel
theorem dX10_feed_51 : decode cX10_feed 51 = .ok (.invokevirtual 101, 3) := by decide +kernel
theorem dX10_feed_54 : decode cX10_feed 54 = .ok (.aload_n 0, 1) := by decide +kernel
theorem dX10_feed_55 : decode cX10_feed 55 = .ok (.getfield 10, 3) := by decide +kernel
theorem dX10_feed_58 : decode cX10_feed 58 = .ok (.iload_n 2, 1) := by decide +kernel
theorem dX10_feed_59 : decode cX10_feed 59 = .ok (.invokevirtual 101, 3) := by decide +kernel
theorem dX10_feed_62 : decode cX10_feed 62 = .ok (.aload_n 0, 1) := by decide +kernel
theorem dX10_feed_63 : decode cX10_feed 63 = .ok (.getfield 10, 3) := by decide +kernel
theorem dX10_feed_66 : decode cX10_feed 66 = .ok (.iload_n 3, 1) := by decide +kernel
theorem dX10_feed_67 : decode cX10_feed 67 = .ok (.invokevirtual 101, 3) := by decide +kernel
theorem dX10_feed_70 : decode cX10_feed 70 = .ok (.aload_n 0, 1) := by decide +kernel
theorem dX10_feed_71 : decode cX10_feed 71 = .ok (.getfield 10, 3) := by decide +kernel
theorem dX10_feed_74 : decode cX10_feed 74 = .ok (.iload 4, 2) := by decide +kernel
theorem dX10_feed_76 : decode cX10_feed 76 = .ok (.invokevirtual 101, 3) := by decide +kernel
theorem dX10_feed_79 : decode cX10_feed 79 = .ok (.aload_n 0, 1) := by decide +kernel
theorem dX10_feed_80 : decode cX10_feed 80 = .ok (.getfield 10, 3) := by decide +kernel
theorem dX10_feed_83 : decode cX10_feed 83 = .ok (.iload 5, 2) := by decide +kernel
theorem dX10_feed_85 : decode cX10_feed 85 = .ok (.invokevirtual 101, 3) := by decide +kernel
theorem dX10_feed_88 : decode cX10_feed 88 = .ok (.aload_n 0, 1) := by decide +kernel
theorem dX10_feed_89 : decode cX10_feed 89 = .ok (.getfield 10, 3) := by decide +kernel
theorem dX10_feed_92 : decode cX10_feed 92 = .ok (.invokevirtual 97, 3) := by decide +kernel
theorem dX10_feed_95 : decode cX10_feed 95 = .ok (.ireturn, 1) := by decide +kernel
theorem dX10_end_0 : decode cX10_end 0 = .ok (.iload_n 1, 1) := by decide +kernel
theorem dX10_end_1 : decode cX10_end 1 = .ok (.ifCond .lt 14, 3) := by decide +kernel
theorem dX10_end_4 : decode cX10_end 4 = .ok (.iload_n 1, 1) := by decide +kernel
theorem dX10_end_5 : decode cX10_end 5 = .ok (.aload_n 0, 1) := by decide +kernel
theorem dX10_end_6 : decode cX10_end 6 = .ok (.getfield 10, 3) := by decide +kernel
theorem dX10_end_9 : decode cX10_end 9 = .ok (.invokevirtual 97, 3) := by decide +kernel
theorem dX10_end_12 : decode cX10_end 12 = .ok (.if_icmp .le 5, 3) := by decide +kernel
theorem dX10_end_15 : decode cX10_end 15 = .ok (.iconst 0, 1) := by decide +kernel
theorem dX10_end_16 : decode cX10_end 16 = .ok (.ireturn, 1) := by decide +kernel
theorem dX10_end_17 : decode cX10_end 17 = .ok (.aload_n 0, 1) := by decide +kernel
theorem dX10_end_18 : decode cX10_end 18 = .ok (.getfield 10, 3) := by decide +kernel
theorem dX10_end_21 : decode cX10_end 21 = .ok (.iload_n 1, 1) := by decide +kernel
theorem dX10_end_22 : decode cX10_end 22 = .ok (.invokevirtual 105, 3) := by decide +kernel
theorem dX10_end_25 : decode cX10_end 25 = .ok (.iconst 1, 1) := by decide +kernel
theorem dX10_end_26 : decode cX10_end 26 = .ok (.ireturn, 1) := by decide +kernel
theorem dX10_fault_0 : decode cX10_fault 0 = .ok (.iload_n 1, 1) := by decide +kernel
theorem dX10_fault_1 : decode cX10_fault 1 = .ok (.ifCond .ne 25, 3) := by decide +kernel
theorem dX10_fault_4 : decode cX10_fault 4 = .ok (.aload_n 0, 1) := by decide +kernel
theorem dX10_fault_5 : decode cX10_fault 5 = .ok (.getfield 21, 3) := by decide +kernel
theorem dX10_fault_8 : decode cX10_fault 8 = .ok (.invokevirtual 108, 3) := by decide +kernel
theorem dX10_fault_11 : decode cX10_fault 11 = .ok (.ifCond .eq 7, 3) := by decide +kernel
theorem dX10_fault_14 : decode cX10_fault 14 = .ok (.iconst (-1), 1) := by decide +kernel
theorem dX10_fault_15 : decode cX10_fault 15 = .ok (.goto 10, 3) := by decide +kernel
theorem dX10_fault_18 : decode cX10_fault 18 = .ok (.aload_n 0, 1) := by decide +kernel
theorem dX10_fault_19 : decode cX10_fault 19 = .ok (.getfield 10, 3) := by decide +kernel
theorem dX10_fault_22 : decode cX10_fault 22 = .ok (.invokevirtual 112, 3) := by decide +kernel
theorem dX10_fault_25 : decode cX10_fault 25 = .ok (.ireturn, 1) := by decide +kernel
theorem dX10_fault_26 : decode cX10_fault 26 = .ok (.iload_n 1, 1) := by decide +kernel
theorem dX10_fault_27 : decode cX10_fault 27 = .ok (.iconst 1, 1) := by decide +kernel
theorem dX10_fault_28 : decode cX10_fault 28 = .ok (.if_icmp .ne 25, 3) := by decide +kernel
theorem dX10_fault_31 : decode cX10_fault 31 = .ok (.aload_n 0, 1) := by decide +kernel
theorem dX10_fault_32 : decode cX10_fault 32 = .ok (.getfield 28, 3) := by decide +kernel
theorem dX10_fault_35 : decode cX10_fault 35 = .ok (.invokevirtual 115, 3) := by decide +kernel
theorem dX10_fault_38 : decode cX10_fault 38 = .ok (.ifCond .eq 7, 3) := by decide +kernel
theorem dX10_fault_41 : decode cX10_fault 41 = .ok (.iconst (-1), 1) := by decide +kernel
theorem dX10_fault_42 : decode cX10_fault 42 = .ok (.goto 10, 3) := by decide +kernel
theorem dX10_fault_45 : decode cX10_fault 45 = .ok (.aload_n 0, 1) := by decide +kernel
theorem dX10_fault_46 : decode cX10_fault 46 = .ok (.getfield 10, 3) := by decide +kernel
theorem dX10_fault_49 : decode cX10_fault 49 = .ok (.invokevirtual 112, 3) := by decide +kernel
theorem dX10_fault_52 : decode cX10_fault 52 = .ok (.ireturn, 1) := by decide +kernel
theorem dX10_fault_53 : decode cX10_fault 53 = .ok (.bipush (-2), 2) := by decide +kernel
theorem dX10_fault_55 : decode cX10_fault 55 = .ok (.ireturn, 1) := by decide +kernel
theorem dX10_text_0 : decode cX10_text 0 = .ok (.iload_n 1, 1) := by decide +kernel
theorem dX10_text_1 : decode cX10_text 1 = .ok (.ifCond .ne 68, 3) := by decide +kernel
theorem dX10_text_4 : decode cX10_text 4 = .ok (.aload_n 0, 1) := by decide +kernel
theorem dX10_text_5 : decode cX10_text 5 = .ok (.getfield 21, 3) := by decide +kernel
theorem dX10_text_8 : decode cX10_text 8 = .ok (.invokevirtual 108, 3) := by decide +kernel
theorem dX10_text_11 : decode cX10_text 11 = .ok (.ifCond .eq 58, 3) := by decide +kernel
theorem dX10_text_14 : decode cX10_text 14 = .ok (.aload_n 0, 1) := by decide +kernel
theorem dX10_text_15 : decode cX10_text 15 = .ok (.getfield 42, 3) := by decide +kernel
theorem dX10_text_18 : decode cX10_text 18 = .ok (.aload_n 0, 1) := by decide +kernel
theorem dX10_text_19 : decode cX10_text 19 = .ok (.getfield 21, 3) := by decide +kernel
theorem dX10_text_22 : decode cX10_text 22 = .ok (.invokevirtual 116, 3) := by decide +kernel
theorem dX10_text_25 : decode cX10_text 25 = .ok (.invokevirtual 120, 3) := by decide +kernel
theorem dX10_text_28 : decode cX10_text 28 = .ok (.aload_n 0, 1) := by decide +kernel
theorem dX10_text_29 : decode cX10_text 29 = .ok (.getfield 49, 3) := by decide +kernel
theorem dX10_text_32 : decode cX10_text 32 = .ok (.aload_n 0, 1) := by decide +kernel
theorem dX10_text_33 : decode cX10_text 33 = .ok (.getfield 42, 3) := by decide +kernel
theorem dX10_text_36 : decode cX10_text 36 = .ok (.invokevirtual 124, 3) := by decide +kernel
theorem dX10_text_39 : decode cX10_text 39 = .ok (.aload_n 0, 1) := by decide +kernel
theorem dX10_text_40 : decode cX10_text 40 = .ok (.getfield 58, 3) := by decide +kernel
theorem dX10_text_43 : decode cX10_text 43 = .ok (.invokevirtual 127, 3) := by decide +kernel
theorem dX10_text_46 : decode cX10_text 46 = .ok (.aload_n 0, 1) := by decide +kernel
theorem dX10_text_47 : decode cX10_text 47 = .ok (.getfield 76, 3) := by decide +kernel
theorem dX10_text_50 : decode cX10_text 50 = .ok (.invokevirtual 130, 3) := by decide +kernel
theorem dX10_text_53 : decode cX10_text 53 = .ok (.aload_n 0, 1) := by decide +kernel
theorem dX10_text_54 : decode cX10_text 54 = .ok (.getfield 10, 3) := by decide +kernel
theorem dX10_text_57 : decode cX10_text 57 = .ok (.iconst 0, 1) := by decide +kernel
theorem dX10_text_58 : decode cX10_text 58 = .ok (.invokevirtual 105, 3) := by decide +kernel
theorem dX10_text_61 : decode cX10_text 61 = .ok (.aload_n 0, 1) := by decide +kernel
theorem dX10_text_62 : decode cX10_text 62 = .ok (.getfield 42, 3) := by decide +kernel
theorem dX10_text_65 : decode cX10_text 65 = .ok (.invokevirtual 131, 3) := by decide +kernel
theorem dX10_text_68 : decode cX10_text 68 = .ok (.ireturn, 1) := by decide +kernel
theorem dX10_text_69 : decode cX10_text 69 = .ok (.iload_n 1, 1) := by decide +kernel
theorem dX10_text_70 : decode cX10_text 70 = .ok (.iconst 1, 1) := by decide +kernel
theorem dX10_text_71 : decode cX10_text 71 = .ok (.if_icmp .ne 53, 3) := by decide +kernel
theorem dX10_text_74 : decode cX10_text 74 = .ok (.aload_n 0, 1) := by decide +kernel
theorem dX10_text_75 : decode cX10_text 75 = .ok (.getfield 35, 3) := by decide +kernel
theorem dX10_text_78 : decode cX10_text 78 = .ok (.invokevirtual 134, 3) := by decide +kernel
theorem dX10_text_81 : decode cX10_text 81 = .ok (.iconst 4, 1) := by decide +kernel
theorem dX10_text_82 : decode cX10_text 82 = .ok (.if_icmp .ge 42, 3) := by decide +kernel
theorem dX10_text_85 : decode cX10_text 85 = .ok (.aload_n 0, 1) := by decide +kernel
theorem dX10_text_86 : decode cX10_text 86 = .ok (.getfield 28, 3) := by decide +kernel
theorem dX10_text_89 : decode cX10_text 89 = .ok (.invokevirtual 115, 3) := by decide +kernel
theorem dX10_text_92 : decode cX10_text 92 = .ok (.ifCond .eq 32, 3) := by decide +kernel
theorem dX10_text_95 : decode cX10_text 95 = .ok (.aload_n 0, 1) := by decide +kernel
theorem dX10_text_96 : decode cX10_text 96 = .ok (.getfield 35, 3) := by decide +kernel
theorem dX10_text_99 : decode cX10_text 99 = .ok (.aload_n 0, 1) := by decide +kernel
theorem dX10_text_100 : decode cX10_text 100 = .ok (.getfield 28, 3) := by decide +kernel
theorem dX10_text_103 : decode cX10_text 103 = .ok (.invokevirtual 135, 3) := by decide +kernel
theorem dX10_text_106 : decode cX10_text 106 = .ok (.aload_n 0, 1) := by decide +kernel
theorem dX10_text_107 : decode cX10_text 107 = .ok (.getfield 10, 3) := by decide +kernel
theorem dX10_text_110 : decode cX10_text 110 = .ok (.iconst 0, 1) := by decide +kernel
theorem dX10_text_111 : decode cX10_text 111 = .ok (.invokevirtual 105, 3) := by decide +kernel
theorem dX10_text_114 : decode cX10_text 114 = .ok (.aload_n 0, 1) := by decide +kernel
theorem dX10_text_115 : decode cX10_text 115 = .ok (.getfield 35, 3) := by decide +kernel
theorem dX10_text_118 : decode cX10_text 118 = .ok (.invokevirtual 134, 3) := by decide +kernel
theorem dX10_text_121 : decode cX10_text 121 = .ok (.iconst 1, 1) := by decide +kernel
theorem dX10_text_122 : decode cX10_text 122 = .ok (.isub, 1) := by decide +kernel
theorem dX10_text_123 : decode cX10_text 123 = .ok (.ireturn, 1) := by decide +kernel
theorem dX10_text_124 : decode cX10_text 124 = .ok (.iconst (-1), 1) := by decide +kernel
theorem dX10_text_125 : decode cX10_text 125 = .ok (.ireturn, 1) := by decide +kernel
theorem dX10_rule_0 : decode cX10_rule 0 = .ok (.aload_n 0, 1) := by decide +kernel
theorem dX10_rule_1 : decode cX10_rule 1 = .ok (.getfield 42, 3) := by decide +kernel
theorem dX10_rule_4 : decode cX10_rule 4 = .ok (.invokevirtual 139, 3) := by decide +kernel
theorem dX10_rule_7 : decode cX10_rule 7 = .ok (.ifCond .ne 5, 3) := by decide +kernel
theorem dX10_rule_10 : decode cX10_rule 10 = .ok (.iconst (-1), 1) := by decide +kernel
theorem dX10_rule_11 : decode cX10_rule 11 = .ok (.ireturn, 1) := by decide +kernel
theorem dX10_rule_12 : decode cX10_rule 12 = .ok (.iload_n 1, 1) := by decide +kernel
theorem dX10_rule_13 : decode cX10_rule 13 = .ok (.tableswitch 51 0 2 #[27, 35, 43], 27) := by decide +kernel
theorem dX10_rule_40 : decode cX10_rule 40 = .ok (.aload_n 0, 1) := by decide +kernel
theorem dX10_rule_41 : decode cX10_rule 41 = .ok (.getfield 42, 3) := by decide +kernel
theorem dX10_rule_44 : decode cX10_rule 44 = .ok (.invokevirtual 142, 3) := by decide +kernel
theorem dX10_rule_47 : decode cX10_rule 47 = .ok (.ireturn, 1) := by decide +kernel
theorem dX10_rule_48 : decode cX10_rule 48 = .ok (.aload_n 0, 1) := by decide +kernel
theorem dX10_rule_49 : decode cX10_rule 49 = .ok (.getfield 42, 3) := by decide +kernel
theorem dX10_rule_52 : decode cX10_rule 52 = .ok (.invokevirtual 145, 3) := by decide +kernel
theorem dX10_rule_55 : decode cX10_rule 55 = .ok (.ireturn, 1) := by decide +kernel
theorem dX10_rule_56 : decode cX10_rule 56 = .ok (.aload_n 0, 1) := by decide +kernel
theorem dX10_rule_57 : decode cX10_rule 57 = .ok (.getfield 49, 3) := by decide +kernel
theorem dX10_rule_60 : decode cX10_rule 60 = .ok (.getfield 148, 3) := by decide +kernel
theorem dX10_rule_63 : decode cX10_rule 63 = .ok (.ireturn, 1) := by decide +kernel
theorem dX10_rule_64 : decode cX10_rule 64 = .ok (.iconst (-1), 1) := by decide +kernel
theorem dX10_rule_65 : decode cX10_rule 65 = .ok (.ireturn, 1) := by decide +kernel
theorem dX10_boy_0 : decode cX10_boy 0 = .ok (.aload_n 0, 1) := by decide +kernel
theorem dX10_boy_1 : decode cX10_boy 1 = .ok (.getfield 42, 3) := by decide +kernel
theorem dX10_boy_4 : decode cX10_boy 4 = .ok (.iload_n 1, 1) := by decide +kernel
theorem dX10_boy_5 : decode cX10_boy 5 = .ok (.invokevirtual 152, 3) := by decide +kernel
theorem dX10_boy_8 : decode cX10_boy 8 = .ok (.ifCond .eq 12, 3) := by decide +kernel
theorem dX10_boy_11 : decode cX10_boy 11 = .ok (.iload_n 2, 1) := by decide +kernel
theorem dX10_boy_12 : decode cX10_boy 12 = .ok (.ifCond .lt 8, 3) := by decide +kernel
theorem dX10_boy_15 : decode cX10_boy 15 = .ok (.iload_n 2, 1) := by decide +kernel
theorem dX10_boy_16 : decode cX10_boy 16 = .ok (.iconst 2, 1) := by decide +kernel
theorem dX10_boy_17 : decode cX10_boy 17 = .ok (.if_icmp .le 13, 3) := by decide +kernel
theorem dX10_boy_20 : decode cX10_boy 20 = .ok (.new 156, 3) := by decide +kernel
theorem dX10_boy_23 : decode cX10_boy 23 = .ok (.dup, 1) := by decide +kernel
theorem dX10_boy_24 : decode cX10_boy 24 = .ok (.ldc 158, 2) := by decide +kernel
theorem dX10_boy_26 : decode cX10_boy 26 = .ok (.invokespecial 160, 3) := by decide +kernel
theorem dX10_boy_29 : decode cX10_boy 29 = .ok (.athrow, 1) := by decide +kernel
theorem dX10_boy_30 : decode cX10_boy 30 = .ok (.iload_n 2, 1) := by decide +kernel
theorem dX10_boy_31 : decode cX10_boy 31 = .ok (.ifCond .ne 12, 3) := by decide +kernel
theorem dX10_boy_34 : decode cX10_boy 34 = .ok (.aload_n 0, 1) := by decide +kernel
theorem dX10_boy_35 : decode cX10_boy 35 = .ok (.getfield 42, 3) := by decide +kernel
theorem dX10_boy_38 : decode cX10_boy 38 = .ok (.iload_n 1, 1) := by decide +kernel
theorem dX10_boy_39 : decode cX10_boy 39 = .ok (.invokevirtual 163, 3) := by decide +kernel
theorem dX10_boy_42 : decode cX10_boy 42 = .ok (.ireturn, 1) := by decide +kernel
theorem dX10_boy_43 : decode cX10_boy 43 = .ok (.iload_n 2, 1) := by decide +kernel
theorem dX10_boy_44 : decode cX10_boy 44 = .ok (.iconst 1, 1) := by decide +kernel
theorem dX10_boy_45 : decode cX10_boy 45 = .ok (.if_icmp .ne 14, 3) := by decide +kernel
theorem dX10_boy_48 : decode cX10_boy 48 = .ok (.aload_n 0, 1) := by decide +kernel
theorem dX10_boy_49 : decode cX10_boy 49 = .ok (.getfield 42, 3) := by decide +kernel
theorem dX10_boy_52 : decode cX10_boy 52 = .ok (.iload_n 1, 1) := by decide +kernel
theorem dX10_boy_53 : decode cX10_boy 53 = .ok (.invokevirtual 166, 3) := by decide +kernel
theorem dX10_boy_56 : decode cX10_boy 56 = .ok (.goto 14, 3) := by decide +kernel
theorem dX10_boy_59 : decode cX10_boy 59 = .ok (.aload_n 0, 1) := by decide +kernel
theorem dX10_boy_60 : decode cX10_boy 60 = .ok (.getfield 49, 3) := by decide +kernel
theorem dX10_boy_63 : decode cX10_boy 63 = .ok (.iload_n 1, 1) := by decide +kernel
theorem dX10_boy_64 : decode cX10_boy 64 = .ok (.invokevirtual 169, 3) := by decide +kernel
theorem dX10_boy_67 : decode cX10_boy 67 = .ok (.invokestatic 172, 3) := by decide +kernel
theorem dX10_boy_70 : decode cX10_boy 70 = .ok (.ireturn, 1) := by decide +kernel
theorem dX10_marble_0 : decode cX10_marble 0 = .ok (.aload_n 0, 1) := by decide +kernel
theorem dX10_marble_1 : decode cX10_marble 1 = .ok (.getfield 42, 3) := by decide +kernel
theorem dX10_marble_4 : decode cX10_marble 4 = .ok (.iload_n 1, 1) := by decide +kernel
theorem dX10_marble_5 : decode cX10_marble 5 = .ok (.invokevirtual 177, 3) := by decide +kernel
theorem dX10_marble_8 : decode cX10_marble 8 = .ok (.ifCond .ne 6, 3) := by decide +kernel
theorem dX10_marble_11 : decode cX10_marble 11 = .ok (.ldc 180, 2) := by decide +kernel
theorem dX10_marble_13 : decode cX10_marble 13 = .ok (.ireturn, 1) := by decide +kernel
theorem dX10_marble_14 : decode cX10_marble 14 = .ok (.iload_n 2, 1) := by decide +kernel
theorem dX10_marble_15 : decode cX10_marble 15 = .ok (.tableswitch 94 0 4 #[33, 42, 51, 60, 77], 33) := by decide +kernel
theorem dX10_marble_48 : decode cX10_marble 48 = .ok (.aload_n 0, 1) := by decide +kernel
theorem dX10_marble_49 : decode cX10_marble 49 = .ok (.getfield 49, 3) := by decide +kernel
theorem dX10_marble_52 : decode cX10_marble 52 = .ok (.iload_n 1, 1) := by decide +kernel
theorem dX10_marble_53 : decode cX10_marble 53 = .ok (.invokevirtual 181, 3) := by decide +kernel
theorem dX10_marble_56 : decode cX10_marble 56 = .ok (.ireturn, 1) := by decide +kernel
theorem dX10_marble_57 : decode cX10_marble 57 = .ok (.aload_n 0, 1) := by decide +kernel
theorem dX10_marble_58 : decode cX10_marble 58 = .ok (.getfield 42, 3) := by decide +kernel
theorem dX10_marble_61 : decode cX10_marble 61 = .ok (.iload_n 1, 1) := by decide +kernel
theorem dX10_marble_62 : decode cX10_marble 62 = .ok (.invokevirtual 184, 3) := by decide +kernel
theorem dX10_marble_65 : decode cX10_marble 65 = .ok (.ireturn, 1) := by decide +kernel
theorem dX10_marble_66 : decode cX10_marble 66 = .ok (.aload_n 0, 1) := by decide +kernel
theorem dX10_marble_67 : decode cX10_marble 67 = .ok (.getfield 42, 3) := by decide +kernel
theorem dX10_marble_70 : decode cX10_marble 70 = .ok (.iload_n 1, 1) := by decide +kernel
theorem dX10_marble_71 : decode cX10_marble 71 = .ok (.invokevirtual 187, 3) := by decide +kernel
theorem dX10_marble_74 : decode cX10_marble 74 = .ok (.ireturn, 1) := by decide +kernel
theorem dX10_marble_75 : decode cX10_marble 75 = .ok (.aload_n 0, 1) := by decide +kernel
theorem dX10_marble_76 : decode cX10_marble 76 = .ok (.getfield 49, 3) := by decide +kernel
theorem dX10_marble_79 : decode cX10_marble 79 = .ok (.iload_n 1, 1) := by decide +kernel
theorem dX10_marble_80 : decode cX10_marble 80 = .ok (.invokevirtual 189, 3) := by decide +kernel
theorem dX10_marble_83 : decode cX10_marble 83 = .ok (.ifCond .eq 7, 3) := by decide +kernel
theorem dX10_marble_86 : decode cX10_marble 86 = .ok (.iconst 1, 1) := by decide +kernel
theorem dX10_marble_87 : decode cX10_marble 87 = .ok (.goto 4, 3) := by decide +kernel
theorem dX10_marble_90 : decode cX10_marble 90 = .ok (.iconst 0, 1) := by decide +kernel
theorem dX10_marble_91 : decode cX10_marble 91 = .ok (.ireturn, 1) := by decide +kernel
theorem dX10_marble_92 : decode cX10_marble 92 = .ok (.aload_n 0, 1) := by decide +kernel
theorem dX10_marble_93 : decode cX10_marble 93 = .ok (.getfield 49, 3) := by decide +kernel
theorem dX10_marble_96 : decode cX10_marble 96 = .ok (.iload_n 1, 1) := by decide +kernel
theorem dX10_marble_97 : decode cX10_marble 97 = .ok (.invokevirtual 192, 3) := by decide +kernel
theorem dX10_marble_100 : decode cX10_marble 100 = .ok (.ifCond .eq 7, 3) := by decide +kernel
theorem dX10_marble_103 : decode cX10_marble 103 = .ok (.iconst 1, 1) := by decide +kernel
theorem dX10_marble_104 : decode cX10_marble 104 = .ok (.goto 4, 3) := by decide +kernel
theorem dX10_marble_107 : decode cX10_marble 107 = .ok (.iconst 0, 1) := by decide +kernel
theorem dX10_marble_108 : decode cX10_marble 108 = .ok (.ireturn, 1) := by decide +kernel
theorem dX10_marble_109 : decode cX10_marble 109 = .ok (.ldc 180, 2) := by decide +kernel
theorem dX10_marble_111 : decode cX10_marble 111 = .ok (.ireturn, 1) := by decide +kernel
theorem dX10_farm_0 : decode cX10_farm 0 = .ok (.aload_n 0, 1) := by decide +kernel
theorem dX10_farm_1 : decode cX10_farm 1 = .ok (.getfield 42, 3) := by decide +kernel
theorem dX10_farm_4 : decode cX10_farm 4 = .ok (.iload_n 1, 1) := by decide +kernel
theorem dX10_farm_5 : decode cX10_farm 5 = .ok (.invokevirtual 195, 3) := by decide +kernel
theorem dX10_farm_8 : decode cX10_farm 8 = .ok (.ifCond .ne 5, 3) := by decide +kernel
theorem dX10_farm_11 : decode cX10_farm 11 = .ok (.iconst (-1), 1) := by decide +kernel
theorem dX10_farm_12 : decode cX10_farm 12 = .ok (.ireturn, 1) := by decide +kernel
theorem dX10_farm_13 : decode cX10_farm 13 = .ok (.iload_n 2, 1) := by decide +kernel
theorem dX10_farm_14 : decode cX10_farm 14 = .ok (.tableswitch 66 0 3 #[30, 39, 48, 57], 30) := by decide +kernel
theorem dX10_farm_44 : decode cX10_farm 44 = .ok (.aload_n 0, 1) := by decide +kernel
theorem dX10_farm_45 : decode cX10_farm 45 = .ok (.getfield 42, 3) := by decide +kernel
theorem dX10_farm_48 : decode cX10_farm 48 = .ok (.iload_n 1, 1) := by decide +kernel
theorem dX10_farm_49 : decode cX10_farm 49 = .ok (.invokevirtual 198, 3) := by decide +kernel
theorem dX10_farm_52 : decode cX10_farm 52 = .ok (.ireturn, 1) := by decide +kernel
theorem dX10_farm_53 : decode cX10_farm 53 = .ok (.aload_n 0, 1) := by decide +kernel
theorem dX10_farm_54 : decode cX10_farm 54 = .ok (.getfield 42, 3) := by decide +kernel
theorem dX10_farm_57 : decode cX10_farm 57 = .ok (.iload_n 1, 1) := by decide +kernel
theorem dX10_farm_58 : decode cX10_farm 58 = .ok (.invokevirtual 201, 3) := by decide +kernel
theorem dX10_farm_61 : decode cX10_farm 61 = .ok (.ireturn, 1) := by decide +kernel
theorem dX10_farm_62 : decode cX10_farm 62 = .ok (.aload_n 0, 1) := by decide +kernel
theorem dX10_farm_63 : decode cX10_farm 63 = .ok (.getfield 42, 3) := by decide +kernel
theorem dX10_farm_66 : decode cX10_farm 66 = .ok (.iload_n 1, 1) := by decide +kernel
theorem dX10_farm_67 : decode cX10_farm 67 = .ok (.invokevirtual 204, 3) := by decide +kernel
theorem dX10_farm_70 : decode cX10_farm 70 = .ok (.ireturn, 1) := by decide +kernel
theorem dX10_farm_71 : decode cX10_farm 71 = .ok (.aload_n 0, 1) := by decide +kernel
theorem dX10_farm_72 : decode cX10_farm 72 = .ok (.invokevirtual 207, 3) := by decide +kernel
theorem dX10_farm_75 : decode cX10_farm 75 = .ok (.iload_n 1, 1) := by decide +kernel
theorem dX10_farm_76 : decode cX10_farm 76 = .ok (.ishr, 1) := by decide +kernel
theorem dX10_farm_77 : decode cX10_farm 77 = .ok (.iconst 1, 1) := by decide +kernel
theorem dX10_farm_78 : decode cX10_farm 78 = .ok (.iand, 1) := by decide +kernel
theorem dX10_farm_79 : decode cX10_farm 79 = .ok (.ireturn, 1) := by decide +kernel
theorem dX10_farm_80 : decode cX10_farm 80 = .ok (.iconst (-1), 1) := by decide +kernel
theorem dX10_farm_81 : decode cX10_farm 81 = .ok (.ireturn, 1) := by decide +kernel
theorem dX10_law_0 : decode cX10_law 0 = .ok (.aload_n 0, 1) := by decide +kernel
theorem dX10_law_1 : decode cX10_law 1 = .ok (.getfield 35, 3) := by decide +kernel
theorem dX10_law_4 : decode cX10_law 4 = .ok (.iload_n 1, 1) := by decide +kernel
theorem dX10_law_5 : decode cX10_law 5 = .ok (.invokevirtual 210, 3) := by decide +kernel
theorem dX10_law_8 : decode cX10_law 8 = .ok (.ireturn, 1) := by decide +kernel
theorem dX10_play_0 : decode cX10_play 0 = .ok (.aload_n 0, 1) := by decide +kernel
theorem dX10_play_1 : decode cX10_play 1 = .ok (.getfield 85, 3) := by decide +kernel
theorem dX10_play_4 : decode cX10_play 4 = .ok (.iload_n 1, 1) := by decide +kernel
theorem dX10_play_5 : decode cX10_play 5 = .ok (.iload_n 2, 1) := by decide +kernel
theorem dX10_play_6 : decode cX10_play 6 = .ok (.iload_n 3, 1) := by decide +kernel
theorem dX10_play_7 : decode cX10_play 7 = .ok (.iload 4, 2) := by decide +kernel
theorem dX10_play_9 : decode cX10_play 9 = .ok (.invokevirtual 213, 3) := by decide +kernel
theorem dX10_play_12 : decode cX10_play 12 = .ok (.istore 5, 2) := by decide +kernel
theorem dX10_play_14 : decode cX10_play 14 = .ok (.iload 5, 2) := by decide +kernel
theorem dX10_play_16 : decode cX10_play 16 = .ok (.iconst (-1), 1) := by decide +kernel
theorem dX10_play_17 : decode cX10_play 17 = .ok (.if_icmp .eq 10, 3) := by decide +kernel
theorem dX10_play_20 : decode cX10_play 20 = .ok (.aload_n 0, 1) := by decide +kernel
theorem dX10_play_21 : decode cX10_play 21 = .ok (.iload 5, 2) := by decide +kernel
theorem dX10_play_23 : decode cX10_play 23 = .ok (.invokevirtual 217, 3) := by decide +kernel
theorem dX10_play_26 : decode cX10_play 26 = .ok (.ireturn, 1) := by decide +kernel
theorem dX10_play_27 : decode cX10_play 27 = .ok (.aload_n 0, 1) := by decide +kernel
theorem dX10_play_28 : decode cX10_play 28 = .ok (.getfield 58, 3) := by decide +kernel
theorem dX10_play_31 : decode cX10_play 31 = .ok (.invokevirtual 220, 3) := by decide +kernel
theorem dX10_play_34 : decode cX10_play 34 = .ok (.aload_n 0, 1) := by decide +kernel
theorem dX10_play_35 : decode cX10_play 35 = .ok (.getfield 85, 3) := by decide +kernel
theorem dX10_play_38 : decode cX10_play 38 = .ok (.iload_n 1, 1) := by decide +kernel
theorem dX10_play_39 : decode cX10_play 39 = .ok (.iload_n 2, 1) := by decide +kernel
theorem dX10_play_40 : decode cX10_play 40 = .ok (.iload_n 3, 1) := by decide +kernel
theorem dX10_play_41 : decode cX10_play 41 = .ok (.iload 4, 2) := by decide +kernel
theorem dX10_play_43 : decode cX10_play 43 = .ok (.invokevirtual 223, 3) := by decide +kernel
theorem dX10_play_46 : decode cX10_play 46 = .ok (.ireturn, 1) := by decide +kernel
theorem dX10_swap_0 : decode cX10_swap 0 = .ok (.aload_n 0, 1) := by decide +kernel
theorem dX10_swap_1 : decode cX10_swap 1 = .ok (.getfield 85, 3) := by decide +kernel
theorem dX10_swap_4 : decode cX10_swap 4 = .ok (.iload_n 1, 1) := by decide +kernel
theorem dX10_swap_5 : decode cX10_swap 5 = .ok (.iconst 1, 1) := by decide +kernel
theorem dX10_swap_6 : decode cX10_swap 6 = .ok (.iload_n 2, 1) := by decide +kernel
theorem dX10_swap_7 : decode cX10_swap 7 = .ok (.iconst 1, 1) := by decide +kernel
theorem dX10_swap_8 : decode cX10_swap 8 = .ok (.invokevirtual 213, 3) := by decide +kernel
theorem dX10_swap_11 : decode cX10_swap 11 = .ok (.istore_n 3, 1) := by decide +kernel
theorem dX10_swap_12 : decode cX10_swap 12 = .ok (.iload_n 3, 1) := by decide +kernel
theorem dX10_swap_13 : decode cX10_swap 13 = .ok (.iconst (-1), 1) := by decide +kernel
theorem dX10_swap_14 : decode cX10_swap 14 = .ok (.if_icmp .eq 9, 3) := by decide +kernel
theorem dX10_swap_17 : decode cX10_swap 17 = .ok (.aload_n 0, 1) := by decide +kernel
theorem dX10_swap_18 : decode cX10_swap 18 = .ok (.iload_n 3, 1) := by decide +kernel
theorem dX10_swap_19 : decode cX10_swap 19 = .ok (.invokevirtual 217, 3) := by decide +kernel
theorem dX10_swap_22 : decode cX10_swap 22 = .ok (.ireturn, 1) := by decide +kernel
theorem dX10_swap_23 : decode cX10_swap 23 = .ok (.aload_n 0, 1) := by decide +kernel
theorem dX10_swap_24 : decode cX10_swap 24 = .ok (.getfield 58, 3) := by decide +kernel
theorem dX10_swap_27 : decode cX10_swap 27 = .ok (.invokevirtual 220, 3) := by decide +kernel
theorem dX10_swap_30 : decode cX10_swap 30 = .ok (.aload_n 0, 1) := by decide +kernel
theorem dX10_swap_31 : decode cX10_swap 31 = .ok (.getfield 49, 3) := by decide +kernel
theorem dX10_swap_34 : decode cX10_swap 34 = .ok (.iload_n 1, 1) := by decide +kernel
theorem dX10_swap_35 : decode cX10_swap 35 = .ok (.invokevirtual 181, 3) := by decide +kernel
theorem dX10_swap_38 : decode cX10_swap 38 = .ok (.istore 4, 2) := by decide +kernel
theorem dX10_swap_40 : decode cX10_swap 40 = .ok (.aload_n 0, 1) := by decide +kernel
theorem dX10_swap_41 : decode cX10_swap 41 = .ok (.getfield 49, 3) := by decide +kernel
theorem dX10_swap_44 : decode cX10_swap 44 = .ok (.iload_n 1, 1) := by decide +kernel
theorem dX10_swap_45 : decode cX10_swap 45 = .ok (.aload_n 0, 1) := by decide +kernel
theorem dX10_swap_46 : decode cX10_swap 46 = .ok (.getfield 49, 3) := by decide +kernel
theorem dX10_swap_49 : decode cX10_swap 49 = .ok (.iload_n 2, 1) := by decide +kernel
theorem dX10_swap_50 : decode cX10_swap 50 = .ok (.invokevirtual 181, 3) := by decide +kernel
theorem dX10_swap_53 : decode cX10_swap 53 = .ok (.invokevirtual 226, 3) := by decide +kernel
theorem dX10_swap_56 : decode cX10_swap 56 = .ok (.aload_n 0, 1) := by decide +kernel
theorem dX10_swap_57 : decode cX10_swap 57 = .ok (.getfield 49, 3) := by decide +kernel
theorem dX10_swap_60 : decode cX10_swap 60 = .ok (.iload_n 2, 1) := by decide +kernel
theorem dX10_swap_61 : decode cX10_swap 61 = .ok (.iload 4, 2) := by decide +kernel
theorem dX10_swap_63 : decode cX10_swap 63 = .ok (.invokevirtual 226, 3) := by decide +kernel
theorem dX10_swap_66 : decode cX10_swap 66 = .ok (.aload_n 0, 1) := by decide +kernel
theorem dX10_swap_67 : decode cX10_swap 67 = .ok (.getfield 49, 3) := by decide +kernel
theorem dX10_swap_70 : decode cX10_swap 70 = .ok (.iload_n 1, 1) := by decide +kernel
theorem dX10_swap_71 : decode cX10_swap 71 = .ok (.invokevirtual 181, 3) := by decide +kernel
theorem dX10_swap_74 : decode cX10_swap 74 = .ok (.ireturn, 1) := by decide +kernel
theorem dX10_give_0 : decode cX10_give 0 = .ok (.aload_n 0, 1) := by decide +kernel
theorem dX10_give_1 : decode cX10_give 1 = .ok (.getfield 42, 3) := by decide +kernel
theorem dX10_give_4 : decode cX10_give 4 = .ok (.iload_n 1, 1) := by decide +kernel
theorem dX10_give_5 : decode cX10_give 5 = .ok (.invokevirtual 177, 3) := by decide +kernel
theorem dX10_give_8 : decode cX10_give 8 = .ok (.ifCond .eq 14, 3) := by decide +kernel
theorem dX10_give_11 : decode cX10_give 11 = .ok (.aload_n 0, 1) := by decide +kernel
theorem dX10_give_12 : decode cX10_give 12 = .ok (.getfield 42, 3) := by decide +kernel
theorem dX10_give_15 : decode cX10_give 15 = .ok (.iload_n 2, 1) := by decide +kernel
theorem dX10_give_16 : decode cX10_give 16 = .ok (.invokevirtual 152, 3) := by decide +kernel
theorem dX10_give_19 : decode cX10_give 19 = .ok (.ifCond .ne 9, 3) := by decide +kernel
theorem dX10_give_22 : decode cX10_give 22 = .ok (.aload_n 0, 1) := by decide +kernel
theorem dX10_give_23 : decode cX10_give 23 = .ok (.iconst 0, 1) := by decide +kernel
theorem dX10_give_24 : decode cX10_give 24 = .ok (.invokevirtual 217, 3) := by decide +kernel
theorem dX10_give_27 : decode cX10_give 27 = .ok (.ireturn, 1) := by decide +kernel
theorem dX10_give_28 : decode cX10_give 28 = .ok (.aload_n 0, 1) := by decide +kernel
theorem dX10_give_29 : decode cX10_give 29 = .ok (.getfield 49, 3) := by decide +kernel
theorem dX10_give_32 : decode cX10_give 32 = .ok (.iload_n 1, 1) := by decide +kernel
theorem dX10_give_33 : decode cX10_give 33 = .ok (.invokevirtual 230, 3) := by decide +kernel
theorem dX10_give_36 : decode cX10_give 36 = .ok (.ifCond .eq 15, 3) := by decide +kernel
theorem dX10_give_39 : decode cX10_give 39 = .ok (.aload_n 0, 1) := by decide +kernel
theorem dX10_give_40 : decode cX10_give 40 = .ok (.getfield 49, 3) := by decide +kernel
theorem dX10_give_43 : decode cX10_give 43 = .ok (.iload_n 1, 1) := by decide +kernel
theorem dX10_give_44 : decode cX10_give 44 = .ok (.invokevirtual 181, 3) := by decide +kernel
theorem dX10_give_47 : decode cX10_give 47 = .ok (.iload_n 2, 1) := by decide +kernel
theorem dX10_give_48 : decode cX10_give 48 = .ok (.if_icmp .ne 9, 3) := by decide +kernel
theorem dX10_give_51 : decode cX10_give 51 = .ok (.aload_n 0, 1) := by decide +kernel
theorem dX10_give_52 : decode cX10_give 52 = .ok (.iconst 2, 1) := by decide +kernel
theorem dX10_give_53 : decode cX10_give 53 = .ok (.invokevirtual 217, 3) := by decide +kernel
theorem dX10_give_56 : decode cX10_give 56 = .ok (.ireturn, 1) := by decide +kernel
theorem dX10_give_57 : decode cX10_give 57 = .ok (.aload_n 0, 1) := by decide +kernel
theorem dX10_give_58 : decode cX10_give 58 = .ok (.getfield 49, 3) := by decide +kernel
theorem dX10_give_61 : decode cX10_give 61 = .ok (.getfield 148, 3) := by decide +kernel
theorem dX10_give_64 : decode cX10_give 64 = .ok (.aload_n 0, 1) := by decide +kernel
theorem dX10_give_65 : decode cX10_give 65 = .ok (.getfield 42, 3) := by decide +kernel
theorem dX10_give_68 : decode cX10_give 68 = .ok (.iload_n 1, 1) := by decide +kernel
theorem dX10_give_69 : decode cX10_give 69 = .ok (.invokevirtual 187, 3) := by decide +kernel
theorem dX10_give_72 : decode cX10_give 72 = .ok (.if_icmp .ge 9, 3) := by decide +kernel
theorem dX10_give_75 : decode cX10_give 75 = .ok (.aload_n 0, 1) := by decide +kernel
theorem dX10_give_76 : decode cX10_give 76 = .ok (.iconst 3, 1) := by decide +kernel
theorem dX10_give_77 : decode cX10_give 77 = .ok (.invokevirtual 217, 3) := by decide +kernel
theorem dX10_give_80 : decode cX10_give 80 = .ok (.ireturn, 1) := by decide +kernel
theorem dX10_give_81 : decode cX10_give 81 = .ok (.aload_n 0, 1) := by decide +kernel
theorem dX10_give_82 : decode cX10_give 82 = .ok (.getfield 58, 3) := by decide +kernel
theorem dX10_give_85 : decode cX10_give 85 = .ok (.invokevirtual 220, 3) := by decide +kernel
theorem dX10_give_88 : decode cX10_give 88 = .ok (.aload_n 0, 1) := by decide +kernel
theorem dX10_give_89 : decode cX10_give 89 = .ok (.getfield 49, 3) := by decide +kernel
theorem dX10_give_92 : decode cX10_give 92 = .ok (.dup, 1) := by decide +kernel
theorem dX10_give_93 : decode cX10_give 93 = .ok (.getfield 148, 3) := by decide +kernel
theorem dX10_give_96 : decode cX10_give 96 = .ok (.aload_n 0, 1) := by decide +kernel
theorem dX10_give_97 : decode cX10_give 97 = .ok (.getfield 42, 3) := by decide +kernel
theorem dX10_give_100 : decode cX10_give 100 = .ok (.iload_n 1, 1) := by decide +kernel
theorem dX10_give_101 : decode cX10_give 101 = .ok (.invokevirtual 187, 3) := by decide +kernel
theorem dX10_give_104 : decode cX10_give 104 = .ok (.isub, 1) := by decide +kernel
theorem dX10_give_105 : decode cX10_give 105 = .ok (.putfield 148, 3) := by decide +kernel
theorem dX10_give_108 : decode cX10_give 108 = .ok (.aload_n 0, 1) := by decide +kernel
theorem dX10_give_109 : decode cX10_give 109 = .ok (.getfield 49, 3) := by decide +kernel
theorem dX10_give_112 : decode cX10_give 112 = .ok (.iload_n 1, 1) := by decide +kernel
theorem dX10_give_113 : decode cX10_give 113 = .ok (.iload_n 2, 1) := by decide +kernel
theorem dX10_give_114 : decode cX10_give 114 = .ok (.invokevirtual 226, 3) := by decide +kernel
theorem dX10_give_117 : decode cX10_give 117 = .ok (.aload_n 0, 1) := by decide +kernel
theorem dX10_give_118 : decode cX10_give 118 = .ok (.getfield 49, 3) := by decide +kernel
theorem dX10_give_121 : decode cX10_give 121 = .ok (.getfield 148, 3) := by decide +kernel
theorem dX10_give_124 : decode cX10_give 124 = .ok (.ireturn, 1) := by decide +kernel
theorem dX10_chip_0 : decode cX10_chip 0 = .ok (.aload_n 0, 1) := by decide +kernel
theorem dX10_chip_1 : decode cX10_chip 1 = .ok (.getfield 42, 3) := by decide +kernel
theorem dX10_chip_4 : decode cX10_chip 4 = .ok (.iload_n 1, 1) := by decide +kernel
theorem dX10_chip_5 : decode cX10_chip 5 = .ok (.invokevirtual 177, 3) := by decide +kernel
theorem dX10_chip_8 : decode cX10_chip 8 = .ok (.ifCond .ne 9, 3) := by decide +kernel
theorem dX10_chip_11 : decode cX10_chip 11 = .ok (.aload_n 0, 1) := by decide +kernel
theorem dX10_chip_12 : decode cX10_chip 12 = .ok (.iconst 0, 1) := by decide +kernel
theorem dX10_chip_13 : decode cX10_chip 13 = .ok (.invokevirtual 217, 3) := by decide +kernel
theorem dX10_chip_16 : decode cX10_chip 16 = .ok (.ireturn, 1) := by decide +kernel
theorem dX10_chip_17 : decode cX10_chip 17 = .ok (.aload_n 0, 1) := by decide +kernel
theorem dX10_chip_18 : decode cX10_chip 18 = .ok (.getfield 49, 3) := by decide +kernel
theorem dX10_chip_21 : decode cX10_chip 21 = .ok (.iload_n 1, 1) := by decide +kernel
theorem dX10_chip_22 : decode cX10_chip 22 = .ok (.invokevirtual 189, 3) := by decide +kernel
theorem dX10_chip_25 : decode cX10_chip 25 = .ok (.ifCond .ne 14, 3) := by decide +kernel
theorem dX10_chip_28 : decode cX10_chip 28 = .ok (.aload_n 0, 1) := by decide +kernel
theorem dX10_chip_29 : decode cX10_chip 29 = .ok (.getfield 49, 3) := by decide +kernel
theorem dX10_chip_32 : decode cX10_chip 32 = .ok (.iload_n 1, 1) := by decide +kernel
theorem dX10_chip_33 : decode cX10_chip 33 = .ok (.invokevirtual 233, 3) := by decide +kernel
theorem dX10_chip_36 : decode cX10_chip 36 = .ok (.ifCond .eq 9, 3) := by decide +kernel
theorem dX10_chip_39 : decode cX10_chip 39 = .ok (.aload_n 0, 1) := by decide +kernel
theorem dX10_chip_40 : decode cX10_chip 40 = .ok (.iconst 2, 1) := by decide +kernel
theorem dX10_chip_41 : decode cX10_chip 41 = .ok (.invokevirtual 217, 3) := by decide +kernel
theorem dX10_chip_44 : decode cX10_chip 44 = .ok (.ireturn, 1) := by decide +kernel
theorem dX10_chip_45 : decode cX10_chip 45 = .ok (.aload_n 0, 1) := by decide +kernel
theorem dX10_chip_46 : decode cX10_chip 46 = .ok (.getfield 58, 3) := by decide +kernel
theorem dX10_chip_49 : decode cX10_chip 49 = .ok (.invokevirtual 220, 3) := by decide +kernel
theorem dX10_chip_52 : decode cX10_chip 52 = .ok (.aload_n 0, 1) := by decide +kernel
theorem dX10_chip_53 : decode cX10_chip 53 = .ok (.getfield 49, 3) := by decide +kernel
theorem dX10_chip_56 : decode cX10_chip 56 = .ok (.dup, 1) := by decide +kernel
theorem dX10_chip_57 : decode cX10_chip 57 = .ok (.getfield 236, 3) := by decide +kernel
theorem dX10_chip_60 : decode cX10_chip 60 = .ok (.iconst 1, 1) := by decide +kernel
theorem dX10_chip_61 : decode cX10_chip 61 = .ok (.iload_n 1, 1) := by decide +kernel
theorem dX10_chip_62 : decode cX10_chip 62 = .ok (.ishl, 1) := by decide +kernel
theorem dX10_chip_63 : decode cX10_chip 63 = .ok (.ior, 1) := by decide +kernel
theorem dX10_chip_64 : decode cX10_chip 64 = .ok (.putfield 236, 3) := by decide +kernel
theorem dX10_chip_67 : decode cX10_chip 67 = .ok (.aload_n 0, 1) := by decide +kernel
theorem dX10_chip_68 : decode cX10_chip 68 = .ok (.getfield 49, 3) := by decide +kernel
theorem dX10_chip_71 : decode cX10_chip 71 = .ok (.getfield 236, 3) := by decide +kernel
theorem dX10_chip_74 : decode cX10_chip 74 = .ok (.invokestatic 172, 3) := by decide +kernel
theorem dX10_chip_77 : decode cX10_chip 77 = .ok (.ireturn, 1) := by decide +kernel
theorem dX10_swallow_0 : decode cX10_swallow 0 = .ok (.aload_n 0, 1) := by decide +kernel
theorem dX10_swallow_1 : decode cX10_swallow 1 = .ok (.getfield 42, 3) := by decide +kernel
theorem dX10_swallow_4 : decode cX10_swallow 4 = .ok (.iload_n 1, 1) := by decide +kernel
theorem dX10_swallow_5 : decode cX10_swallow 5 = .ok (.invokevirtual 177, 3) := by decide +kernel
theorem dX10_swallow_8 : decode cX10_swallow 8 = .ok (.ifCond .ne 9, 3) := by decide +kernel
theorem dX10_swallow_11 : decode cX10_swallow 11 = .ok (.aload_n 0, 1) := by decide +kernel
theorem dX10_swallow_12 : decode cX10_swallow 12 = .ok (.iconst 0, 1) := by decide +kernel
theorem dX10_swallow_13 : decode cX10_swallow 13 = .ok (.invokevirtual 217, 3) := by decide +kernel
theorem dX10_swallow_16 : decode cX10_swallow 16 = .ok (.ireturn, 1) := by decide +kernel
theorem dX10_swallow_17 : decode cX10_swallow 17 = .ok (.aload_n 0, 1) := by decide +kernel
theorem dX10_swallow_18 : decode cX10_swallow 18 = .ok (.getfield 49, 3) := by decide +kernel
theorem dX10_swallow_21 : decode cX10_swallow 21 = .ok (.iload_n 1, 1) := by decide +kernel
theorem dX10_swallow_22 : decode cX10_swallow 22 = .ok (.invokevirtual 192, 3) := by decide +kernel
theorem dX10_swallow_25 : decode cX10_swallow 25 = .ok (.ifCond .ne 14, 3) := by decide +kernel
theorem dX10_swallow_28 : decode cX10_swallow 28 = .ok (.aload_n 0, 1) := by decide +kernel
theorem dX10_swallow_29 : decode cX10_swallow 29 = .ok (.getfield 49, 3) := by decide +kernel
theorem dX10_swallow_32 : decode cX10_swallow 32 = .ok (.iload_n 1, 1) := by decide +kernel
theorem dX10_swallow_33 : decode cX10_swallow 33 = .ok (.invokevirtual 233, 3) := by decide +kernel
theorem dX10_swallow_36 : decode cX10_swallow 36 = .ok (.ifCond .eq 9, 3) := by decide +kernel
theorem dX10_swallow_39 : decode cX10_swallow 39 = .ok (.aload_n 0, 1) := by decide +kernel
theorem dX10_swallow_40 : decode cX10_swallow 40 = .ok (.iconst 2, 1) := by decide +kernel
theorem dX10_swallow_41 : decode cX10_swallow 41 = .ok (.invokevirtual 217, 3) := by decide +kernel
theorem dX10_swallow_44 : decode cX10_swallow 44 = .ok (.ireturn, 1) := by decide +kernel
theorem dX10_swallow_45 : decode cX10_swallow 45 = .ok (.aload_n 0, 1) := by decide +kernel
theorem dX10_swallow_46 : decode cX10_swallow 46 = .ok (.getfield 58, 3) := by decide +kernel
theorem dX10_swallow_49 : decode cX10_swallow 49 = .ok (.invokevirtual 220, 3) := by decide +kernel
theorem dX10_swallow_52 : decode cX10_swallow 52 = .ok (.aload_n 0, 1) := by decide +kernel
theorem dX10_swallow_53 : decode cX10_swallow 53 = .ok (.getfield 49, 3) := by decide +kernel
theorem dX10_swallow_56 : decode cX10_swallow 56 = .ok (.dup, 1) := by decide +kernel
theorem dX10_swallow_57 : decode cX10_swallow 57 = .ok (.getfield 239, 3) := by decide +kernel
theorem dX10_swallow_60 : decode cX10_swallow 60 = .ok (.iconst 1, 1) := by decide +kernel
theorem dX10_swallow_61 : decode cX10_swallow 61 = .ok (.iload_n 1, 1) := by decide +kernel
theorem dX10_swallow_62 : decode cX10_swallow 62 = .ok (.ishl, 1) := by decide +kernel
theorem dX10_swallow_63 : decode cX10_swallow 63 = .ok (.ior, 1) := by decide +kernel
theorem dX10_swallow_64 : decode cX10_swallow 64 = .ok (.putfield 239, 3) := by decide +kernel
theorem dX10_swallow_67 : decode cX10_swallow 67 = .ok (.aload_n 0, 1) := by decide +kernel
theorem dX10_swallow_68 : decode cX10_swallow 68 = .ok (.getfield 49, 3) := by decide +kernel
theorem dX10_swallow_71 : decode cX10_swallow 71 = .ok (.getfield 239, 3) := by decide +kernel
theorem dX10_swallow_74 : decode cX10_swallow 74 = .ok (.invokestatic 172, 3) := by decide +kernel
theorem dX10_swallow_77 : decode cX10_swallow 77 = .ok (.ireturn, 1) := by decide +kernel
theorem dX10_days_0 : decode cX10_days 0 = .ok (.aload_n 0, 1) := by decide +kernel
theorem dX10_days_1 : decode cX10_days 1 = .ok (.getfield 42, 3) := by decide +kernel
theorem dX10_days_4 : decode cX10_days 4 = .ok (.invokevirtual 139, 3) := by decide +kernel
theorem dX10_days_7 : decode cX10_days 7 = .ok (.ifCond .ne 9, 3) := by decide +kernel
theorem dX10_days_10 : decode cX10_days 10 = .ok (.aload_n 0, 1) := by decide +kernel
theorem dX10_days_11 : decode cX10_days 11 = .ok (.iconst 0, 1) := by decide +kernel
theorem dX10_days_12 : decode cX10_days 12 = .ok (.invokevirtual 217, 3) := by decide +kernel
theorem dX10_days_15 : decode cX10_days 15 = .ok (.ireturn, 1) := by decide +kernel
theorem dX10_days_16 : decode cX10_days 16 = .ok (.iload_n 1, 1) := by decide +kernel
theorem dX10_days_17 : decode cX10_days 17 = .ok (.iconst 1, 1) := by decide +kernel
theorem dX10_days_18 : decode cX10_days 18 = .ok (.if_icmp .lt 9, 3) := by decide +kernel
theorem dX10_days_21 : decode cX10_days 21 = .ok (.iload_n 1, 1) := by decide +kernel
theorem dX10_days_22 : decode cX10_days 22 = .ok (.bipush 60, 2) := by decide +kernel
theorem dX10_days_24 : decode cX10_days 24 = .ok (.if_icmp .le 9, 3) := by decide +kernel
theorem dX10_days_27 : decode cX10_days 27 = .ok (.aload_n 0, 1) := by decide +kernel
theorem dX10_days_28 : decode cX10_days 28 = .ok (.iconst 1, 1) := by decide +kernel
theorem dX10_days_29 : decode cX10_days 29 = .ok (.invokevirtual 217, 3) := by decide +kernel
theorem dX10_days_32 : decode cX10_days 32 = .ok (.ireturn, 1) := by decide +kernel
theorem dX10_days_33 : decode cX10_days 33 = .ok (.aload_n 0, 1) := by decide +kernel
theorem dX10_days_34 : decode cX10_days 34 = .ok (.getfield 49, 3) := by decide +kernel
theorem dX10_days_37 : decode cX10_days 37 = .ok (.getfield 242, 3) := by decide +kernel
theorem dX10_days_40 : decode cX10_days 40 = .ok (.iload_n 1, 1) := by decide +kernel
theorem dX10_days_41 : decode cX10_days 41 = .ok (.iadd, 1) := by decide +kernel
theorem dX10_days_42 : decode cX10_days 42 = .ok (.sipush 9999, 3) := by decide +kernel
theorem dX10_days_45 : decode cX10_days 45 = .ok (.if_icmp .le 9, 3) := by decide +kernel
theorem dX10_days_48 : decode cX10_days 48 = .ok (.aload_n 0, 1) := by decide +kernel
theorem dX10_days_49 : decode cX10_days 49 = .ok (.iconst 4, 1) := by decide +kernel
theorem dX10_days_50 : decode cX10_days 50 = .ok (.invokevirtual 217, 3) := by decide +kernel
theorem dX10_days_53 : decode cX10_days 53 = .ok (.ireturn, 1) := by decide +kernel
theorem dX10_days_54 : decode cX10_days 54 = .ok (.iconst 0, 1) := by decide +kernel
theorem dX10_days_55 : decode cX10_days 55 = .ok (.istore_n 2, 1) := by decide +kernel
theorem dX10_days_56 : decode cX10_days 56 = .ok (.iload_n 2, 1) := by decide +kernel
theorem dX10_days_57 : decode cX10_days 57 = .ok (.iload_n 1, 1) := by decide +kernel
theorem dX10_days_58 : decode cX10_days 58 = .ok (.if_icmp .ge 20, 3) := by decide +kernel
theorem dX10_days_61 : decode cX10_days 61 = .ok (.aload_n 0, 1) := by decide +kernel
theorem dX10_days_62 : decode cX10_days 62 = .ok (.getfield 58, 3) := by decide +kernel
theorem dX10_days_65 : decode cX10_days 65 = .ok (.invokevirtual 220, 3) := by decide +kernel
theorem dX10_days_68 : decode cX10_days 68 = .ok (.aload_n 0, 1) := by decide +kernel
theorem dX10_days_69 : decode cX10_days 69 = .ok (.invokevirtual 245, 3) := by decide +kernel
theorem dX10_days_72 : decode cX10_days 72 = .ok (.iinc 2 1, 3) := by decide +kernel
theorem dX10_days_75 : decode cX10_days 75 = .ok (.goto (-19), 3) := by decide +kernel
theorem dX10_days_78 : decode cX10_days 78 = .ok (.aload_n 0, 1) := by decide +kernel
theorem dX10_days_79 : decode cX10_days 79 = .ok (.getfield 49, 3) := by decide +kernel
theorem dX10_days_82 : decode cX10_days 82 = .ok (.getfield 148, 3) := by decide +kernel
theorem dX10_days_85 : decode cX10_days 85 = .ok (.ireturn, 1) := by decide +kernel
theorem dX10_spills_0 : decode cX10_spills 0 = .ok (.iload_n 1, 1) := by decide +kernel
theorem dX10_spills_1 : decode cX10_spills 1 = .ok (.ifCond .lt 17, 3) := by decide +kernel
theorem dX10_spills_4 : decode cX10_spills 4 = .ok (.iload_n 1, 1) := by decide +kernel
theorem dX10_spills_5 : decode cX10_spills 5 = .ok (.bipush 9, 2) := by decide +kernel
theorem dX10_spills_7 : decode cX10_spills 7 = .ok (.if_icmp .gt 11, 3) := by decide +kernel
theorem dX10_spills_10 : decode cX10_spills 10 = .ok (.iload_n 1, 1) := by decide +kernel
theorem dX10_spills_11 : decode cX10_spills 11 = .ok (.aload_n 0, 1) := by decide +kernel
theorem dX10_spills_12 : decode cX10_spills 12 = .ok (.getfield 248, 3) := by decide +kernel
theorem dX10_spills_15 : decode cX10_spills 15 = .ok (.if_icmp .ne 5, 3) := by decide +kernel
theorem dX10_spills_18 : decode cX10_spills 18 = .ok (.iconst 0, 1) := by decide +kernel
theorem dX10_spills_19 : decode cX10_spills 19 = .ok (.ireturn, 1) := by decide +kernel
theorem dX10_spills_20 : decode cX10_spills 20 = .ok (.aload_n 0, 1) := by decide +kernel
theorem dX10_spills_21 : decode cX10_spills 21 = .ok (.iload_n 1, 1) := by decide +kernel
theorem dX10_spills_22 : decode cX10_spills 22 = .ok (.putfield 248, 3) := by decide +kernel
theorem dX10_spills_25 : decode cX10_spills 25 = .ok (.iconst 1, 1) := by decide +kernel
theorem dX10_spills_26 : decode cX10_spills 26 = .ok (.ireturn, 1) := by decide +kernel
theorem dX10_years_0 : decode cX10_years 0 = .ok (.aload_n 0, 1) := by decide +kernel
theorem dX10_years_1 : decode cX10_years 1 = .ok (.getfield 42, 3) := by decide +kernel
theorem dX10_years_4 : decode cX10_years 4 = .ok (.invokevirtual 139, 3) := by decide +kernel
theorem dX10_years_7 : decode cX10_years 7 = .ok (.ifCond .eq 29, 3) := by decide +kernel
theorem dX10_years_10 : decode cX10_years 10 = .ok (.iload_n 1, 1) := by decide +kernel
theorem dX10_years_11 : decode cX10_years 11 = .ok (.iconst 1, 1) := by decide +kernel
theorem dX10_years_12 : decode cX10_years 12 = .ok (.if_icmp .lt 24, 3) := by decide +kernel
theorem dX10_years_15 : decode cX10_years 15 = .ok (.iload_n 1, 1) := by decide +kernel
theorem dX10_years_16 : decode cX10_years 16 = .ok (.bipush 60, 2) := by decide +kernel
theorem dX10_years_18 : decode cX10_years 18 = .ok (.if_icmp .gt 18, 3) := by decide +kernel
theorem dX10_years_21 : decode cX10_years 21 = .ok (.aload_n 0, 1) := by decide +kernel
theorem dX10_years_22 : decode cX10_years 22 = .ok (.getfield 49, 3) := by decide +kernel
theorem dX10_years_25 : decode cX10_years 25 = .ok (.getfield 242, 3) := by decide +kernel
theorem dX10_years_28 : decode cX10_years 28 = .ok (.iload_n 1, 1) := by decide +kernel
theorem dX10_years_29 : decode cX10_years 29 = .ok (.iadd, 1) := by decide +kernel
theorem dX10_years_30 : decode cX10_years 30 = .ok (.sipush 9999, 3) := by decide +kernel
theorem dX10_years_33 : decode cX10_years 33 = .ok (.if_icmp .le 5, 3) := by decide +kernel
theorem dX10_years_36 : decode cX10_years 36 = .ok (.iconst (-1), 1) := by decide +kernel
theorem dX10_years_37 : decode cX10_years 37 = .ok (.ireturn, 1) := by decide +kernel
theorem dX10_years_38 : decode cX10_years 38 = .ok (.aload_n 0, 1) := by decide +kernel
theorem dX10_years_39 : decode cX10_years 39 = .ok (.lload_n 2, 1) := by decide +kernel
theorem dX10_years_40 : decode cX10_years 40 = .ok (.putfield 251, 3) := by decide +kernel
theorem dX10_years_43 : decode cX10_years 43 = .ok (.iconst 0, 1) := by decide +kernel
theorem dX10_years_44 : decode cX10_years 44 = .ok (.istore 4, 2) := by decide +kernel
theorem dX10_years_46 : decode cX10_years 46 = .ok (.iload 4, 2) := by decide +kernel
theorem dX10_years_48 : decode cX10_years 48 = .ok (.iload_n 1, 1) := by decide +kernel
theorem dX10_years_49 : decode cX10_years 49 = .ok (.if_icmp .ge 28, 3) := by decide +kernel
theorem dX10_years_52 : decode cX10_years 52 = .ok (.aload_n 0, 1) := by decide +kernel
theorem dX10_years_53 : decode cX10_years 53 = .ok (.getfield 58, 3) := by decide +kernel
theorem dX10_years_56 : decode cX10_years 56 = .ok (.invokevirtual 220, 3) := by decide +kernel
theorem dX10_years_59 : decode cX10_years 59 = .ok (.aload_n 0, 1) := by decide +kernel
theorem dX10_years_60 : decode cX10_years 60 = .ok (.invokevirtual 255, 3) := by decide +kernel
theorem dX10_years_63 : decode cX10_years 63 = .ok (.aload_n 0, 1) := by decide +kernel
theorem dX10_years_64 : decode cX10_years 64 = .ok (.invokevirtual 258, 3) := by decide +kernel
theorem dX10_years_67 : decode cX10_years 67 = .ok (.aload_n 0, 1) := by decide +kernel
theorem dX10_years_68 : decode cX10_years 68 = .ok (.invokevirtual 245, 3) := by decide +kernel
theorem dX10_years_71 : decode cX10_years 71 = .ok (.iinc 4 1, 3) := by decide +kernel
theorem dX10_years_74 : decode cX10_years 74 = .ok (.goto (-28), 3) := by decide +kernel
theorem dX10_years_77 : decode cX10_years 77 = .ok (.aload_n 0, 1) := by decide +kernel
theorem dX10_years_78 : decode cX10_years 78 = .ok (.getfield 49, 3) := by decide +kernel
theorem dX10_years_81 : decode cX10_years 81 = .ok (.getfield 242, 3) := by decide +kernel
theorem dX10_years_84 : decode cX10_years 84 = .ok (.ireturn, 1) := by decide +kernel
theorem dX10_status_0 : decode cX10_status 0 = .ok (.iload_n 1, 1) := by decide +kernel
theorem dX10_status_1 : decode cX10_status 1 = .ok (.ifCond .lt 17, 3) := by decide +kernel
theorem dX10_status_4 : decode cX10_status 4 = .ok (.iload_n 1, 1) := by decide +kernel
theorem dX10_status_5 : decode cX10_status 5 = .ok (.iconst 5, 1) := by decide +kernel
theorem dX10_status_6 : decode cX10_status 6 = .ok (.if_icmp .ge 12, 3) := by decide +kernel
theorem dX10_status_9 : decode cX10_status 9 = .ok (.aload_n 0, 1) := by decide +kernel
theorem dX10_status_10 : decode cX10_status 10 = .ok (.getfield 89, 3) := by decide +kernel
theorem dX10_status_13 : decode cX10_status 13 = .ok (.iload_n 1, 1) := by decide +kernel
theorem dX10_status_14 : decode cX10_status 14 = .ok (.iaload, 1) := by decide +kernel
theorem dX10_status_15 : decode cX10_status 15 = .ok (.goto 4, 3) := by decide +kernel
theorem dX10_status_18 : decode cX10_status 18 = .ok (.iconst (-1), 1) := by decide +kernel
theorem dX10_status_19 : decode cX10_status 19 = .ok (.ireturn, 1) := by decide +kernel
theorem dX10_undo_0 : decode cX10_undo 0 = .ok (.aload_n 0, 1) := by decide +kernel
theorem dX10_undo_1 : decode cX10_undo 1 = .ok (.getfield 58, 3) := by decide +kernel
theorem dX10_undo_4 : decode cX10_undo 4 = .ok (.invokevirtual 261, 3) := by decide +kernel
theorem dX10_undo_7 : decode cX10_undo 7 = .ok (.ireturn, 1) := by decide +kernel
theorem dX10_log_0 : decode cX10_log 0 = .ok (.iload_n 1, 1) := by decide +kernel
theorem dX10_log_1 : decode cX10_log 1 = .ok (.ifCond .lt 14, 3) := by decide +kernel
theorem dX10_log_4 : decode cX10_log 4 = .ok (.iload_n 1, 1) := by decide +kernel
theorem dX10_log_5 : decode cX10_log 5 = .ok (.aload_n 0, 1) := by decide +kernel
theorem dX10_log_6 : decode cX10_log 6 = .ok (.getfield 58, 3) := by decide +kernel
theorem dX10_log_9 : decode cX10_log 9 = .ok (.invokevirtual 264, 3) := by decide +kernel
theorem dX10_log_12 : decode cX10_log 12 = .ok (.if_icmp .lt 5, 3) := by decide +kernel
theorem dX10_log_15 : decode cX10_log 15 = .ok (.iconst (-1), 1) := by decide +kernel
theorem dX10_log_16 : decode cX10_log 16 = .ok (.ireturn, 1) := by decide +kernel
theorem dX10_log_17 : decode cX10_log 17 = .ok (.iload_n 2, 1) := by decide +kernel
theorem dX10_log_18 : decode cX10_log 18 = .ok (.ifCond .ne 12, 3) := by decide +kernel
theorem dX10_log_21 : decode cX10_log 21 = .ok (.aload_n 0, 1) := by decide +kernel
theorem dX10_log_22 : decode cX10_log 22 = .ok (.getfield 58, 3) := by decide +kernel
theorem dX10_log_25 : decode cX10_log 25 = .ok (.iload_n 1, 1) := by decide +kernel
theorem dX10_log_26 : decode cX10_log 26 = .ok (.invokevirtual 267, 3) := by decide +kernel
theorem dX10_log_29 : decode cX10_log 29 = .ok (.ireturn, 1) := by decide +kernel
theorem dX10_log_30 : decode cX10_log 30 = .ok (.iload_n 2, 1) := by decide +kernel
theorem dX10_log_31 : decode cX10_log 31 = .ok (.iconst 1, 1) := by decide +kernel
theorem dX10_log_32 : decode cX10_log 32 = .ok (.if_icmp .ne 14, 3) := by decide +kernel
theorem dX10_log_35 : decode cX10_log 35 = .ok (.aload_n 0, 1) := by decide +kernel
theorem dX10_log_36 : decode cX10_log 36 = .ok (.getfield 58, 3) := by decide +kernel
theorem dX10_log_39 : decode cX10_log 39 = .ok (.iload_n 1, 1) := by decide +kernel
theorem dX10_log_40 : decode cX10_log 40 = .ok (.invokevirtual 270, 3) := by decide +kernel
theorem dX10_log_43 : decode cX10_log 43 = .ok (.goto 4, 3) := by decide +kernel
theorem dX10_log_46 : decode cX10_log 46 = .ok (.iconst (-1), 1) := by decide +kernel
theorem dX10_log_47 : decode cX10_log 47 = .ok (.ireturn, 1) := by decide +kernel
theorem dX10_lands_0 : decode cX10_lands 0 = .ok (.aload_n 0, 1) := by decide +kernel
theorem dX10_lands_1 : decode cX10_lands 1 = .ok (.getfield 42, 3) := by decide +kernel
theorem dX10_lands_4 : decode cX10_lands 4 = .ok (.iload_n 1, 1) := by decide +kernel
theorem dX10_lands_5 : decode cX10_lands 5 = .ok (.invokevirtual 152, 3) := by decide +kernel
theorem dX10_lands_8 : decode cX10_lands 8 = .ok (.ifCond .eq 21, 3) := by decide +kernel
theorem dX10_lands_11 : decode cX10_lands 11 = .ok (.aload_n 0, 1) := by decide +kernel
theorem dX10_lands_12 : decode cX10_lands 12 = .ok (.getfield 42, 3) := by decide +kernel
theorem dX10_lands_15 : decode cX10_lands 15 = .ok (.iload_n 2, 1) := by decide +kernel
theorem dX10_lands_16 : decode cX10_lands 16 = .ok (.invokevirtual 177, 3) := by decide +kernel
theorem dX10_lands_19 : decode cX10_lands 19 = .ok (.ifCond .eq 10, 3) := by decide +kernel
theorem dX10_lands_22 : decode cX10_lands 22 = .ok (.iload_n 3, 1) := by decide +kernel
theorem dX10_lands_23 : decode cX10_lands 23 = .ok (.invokestatic 273, 3) := by decide +kernel
theorem dX10_lands_26 : decode cX10_lands 26 = .ok (.ifCond .ne 5, 3) := by decide +kernel
theorem dX10_lands_29 : decode cX10_lands 29 = .ok (.iconst (-1), 1) := by decide +kernel
theorem dX10_lands_30 : decode cX10_lands 30 = .ok (.ireturn, 1) := by decide +kernel
theorem dX10_lands_31 : decode cX10_lands 31 = .ok (.aload_n 0, 1) := by decide +kernel
theorem dX10_lands_32 : decode cX10_lands 32 = .ok (.getfield 85, 3) := by decide +kernel
theorem dX10_lands_35 : decode cX10_lands 35 = .ok (.iload_n 1, 1) := by decide +kernel
theorem dX10_lands_36 : decode cX10_lands 36 = .ok (.iload_n 2, 1) := by decide +kernel
theorem dX10_lands_37 : decode cX10_lands 37 = .ok (.iload_n 3, 1) := by decide +kernel
theorem dX10_lands_38 : decode cX10_lands 38 = .ok (.invokevirtual 276, 3) := by decide +kernel
theorem dX10_lands_41 : decode cX10_lands 41 = .ok (.ireturn, 1) := by decide +kernel
theorem dX10_aim_0 : decode cX10_aim 0 = .ok (.aload_n 0, 1) := by decide +kernel
theorem dX10_aim_1 : decode cX10_aim 1 = .ok (.getfield 42, 3) := by decide +kernel
theorem dX10_aim_4 : decode cX10_aim 4 = .ok (.iload_n 1, 1) := by decide +kernel
theorem dX10_aim_5 : decode cX10_aim 5 = .ok (.invokevirtual 152, 3) := by decide +kernel
theorem dX10_aim_8 : decode cX10_aim 8 = .ok (.ifCond .eq 14, 3) := by decide +kernel
theorem dX10_aim_11 : decode cX10_aim 11 = .ok (.aload_n 0, 1) := by decide +kernel
theorem dX10_aim_12 : decode cX10_aim 12 = .ok (.getfield 42, 3) := by decide +kernel
theorem dX10_aim_15 : decode cX10_aim 15 = .ok (.iload_n 2, 1) := by decide +kernel
theorem dX10_aim_16 : decode cX10_aim 16 = .ok (.invokevirtual 177, 3) := by decide +kernel
theorem dX10_aim_19 : decode cX10_aim 19 = .ok (.ifCond .ne 5, 3) := by decide +kernel
theorem dX10_aim_22 : decode cX10_aim 22 = .ok (.iconst (-1), 1) := by decide +kernel
theorem dX10_aim_23 : decode cX10_aim 23 = .ok (.ireturn, 1) := by decide +kernel
theorem dX10_aim_24 : decode cX10_aim 24 = .ok (.aload_n 0, 1) := by decide +kernel
theorem dX10_aim_25 : decode cX10_aim 25 = .ok (.getfield 85, 3) := by decide +kernel
theorem dX10_aim_28 : decode cX10_aim 28 = .ok (.iload_n 1, 1) := by decide +kernel
theorem dX10_aim_29 : decode cX10_aim 29 = .ok (.iload_n 2, 1) := by decide +kernel
theorem dX10_aim_30 : decode cX10_aim 30 = .ok (.invokevirtual 280, 3) := by decide +kernel
theorem dX10_aim_33 : decode cX10_aim 33 = .ok (.ireturn, 1) := by decide +kernel
theorem dX10_wins_0 : decode cX10_wins 0 = .ok (.aload_n 0, 1) := by decide +kernel
theorem dX10_wins_1 : decode cX10_wins 1 = .ok (.getfield 85, 3) := by decide +kernel
theorem dX10_wins_4 : decode cX10_wins 4 = .ok (.iload_n 1, 1) := by decide +kernel
theorem dX10_wins_5 : decode cX10_wins 5 = .ok (.iload_n 2, 1) := by decide +kernel
theorem dX10_wins_6 : decode cX10_wins 6 = .ok (.iload_n 3, 1) := by decide +kernel
theorem dX10_wins_7 : decode cX10_wins 7 = .ok (.iload 4, 2) := by decide +kernel
theorem dX10_wins_9 : decode cX10_wins 9 = .ok (.invokevirtual 213, 3) := by decide +kernel
theorem dX10_wins_12 : decode cX10_wins 12 = .ok (.iconst (-1), 1) := by decide +kernel
theorem dX10_wins_13 : decode cX10_wins 13 = .ok (.if_icmp .eq 6, 3) := by decide +kernel
theorem dX10_wins_16 : decode cX10_wins 16 = .ok (.ldc 180, 2) := by decide +kernel
theorem dX10_wins_18 : decode cX10_wins 18 = .ok (.ireturn, 1) := by decide +kernel
theorem dX10_wins_19 : decode cX10_wins 19 = .ok (.aload_n 0, 1) := by decide +kernel
theorem dX10_wins_20 : decode cX10_wins 20 = .ok (.getfield 85, 3) := by decide +kernel
theorem dX10_wins_23 : decode cX10_wins 23 = .ok (.iload_n 1, 1) := by decide +kernel
theorem dX10_wins_24 : decode cX10_wins 24 = .ok (.iload_n 2, 1) := by decide +kernel
theorem dX10_wins_25 : decode cX10_wins 25 = .ok (.iload_n 3, 1) := by decide +kernel
theorem dX10_wins_26 : decode cX10_wins 26 = .ok (.iload 4, 2) := by decide +kernel
theorem dX10_wins_28 : decode cX10_wins 28 = .ok (.invokevirtual 284, 3) := by decide +kernel
theorem dX10_wins_31 : decode cX10_wins 31 = .ok (.ireturn, 1) := by decide +kernel
theorem dX10_game_0 : decode cX10_game 0 = .ok (.iload 5, 2) := by decide +kernel
theorem dX10_game_2 : decode cX10_game 2 = .ok (.ifCond .lt 25, 3) := by decide +kernel
theorem dX10_game_5 : decode cX10_game 5 = .ok (.iload 5, 2) := by decide +kernel
theorem dX10_game_7 : decode cX10_game 7 = .ok (.iconst 1, 1) := by decide +kernel
theorem dX10_game_8 : decode cX10_game 8 = .ok (.if_icmp .gt 19, 3) := by decide +kernel
theorem dX10_game_11 : decode cX10_game 11 = .ok (.aload_n 0, 1) := by decide +kernel
theorem dX10_game_12 : decode cX10_game 12 = .ok (.getfield 85, 3) := by decide +kernel
theorem dX10_game_15 : decode cX10_game 15 = .ok (.iload_n 1, 1) := by decide +kernel
theorem dX10_game_16 : decode cX10_game 16 = .ok (.iload_n 2, 1) := by decide +kernel
theorem dX10_game_17 : decode cX10_game 17 = .ok (.iload_n 3, 1) := by decide +kernel
theorem dX10_game_18 : decode cX10_game 18 = .ok (.iload 4, 2) := by decide +kernel
theorem dX10_game_20 : decode cX10_game 20 = .ok (.invokevirtual 213, 3) := by decide +kernel
theorem dX10_game_23 : decode cX10_game 23 = .ok (.iconst (-1), 1) := by decide +kernel
theorem dX10_game_24 : decode cX10_game 24 = .ok (.if_icmp .eq 6, 3) := by decide +kernel
theorem dX10_game_27 : decode cX10_game 27 = .ok (.ldc 180, 2) := by decide +kernel
theorem dX10_game_29 : decode cX10_game 29 = .ok (.ireturn, 1) := by decide +kernel
theorem dX10_game_30 : decode cX10_game 30 = .ok (.aload_n 0, 1) := by decide +kernel
theorem dX10_game_31 : decode cX10_game 31 = .ok (.getfield 85, 3) := by decide +kernel
theorem dX10_game_34 : decode cX10_game 34 = .ok (.aload_n 0, 1) := by decide +kernel
theorem dX10_game_35 : decode cX10_game 35 = .ok (.getfield 49, 3) := by decide +kernel
theorem dX10_game_38 : decode cX10_game 38 = .ok (.iload_n 1, 1) := by decide +kernel
theorem dX10_game_39 : decode cX10_game 39 = .ok (.invokevirtual 181, 3) := by decide +kernel
theorem dX10_game_42 : decode cX10_game 42 = .ok (.iload_n 1, 1) := by decide +kernel
theorem dX10_game_43 : decode cX10_game 43 = .ok (.iload_n 2, 1) := by decide +kernel
theorem dX10_game_44 : decode cX10_game 44 = .ok (.invokevirtual 276, 3) := by decide +kernel
theorem dX10_game_47 : decode cX10_game 47 = .ok (.istore 6, 2) := by decide +kernel
theorem dX10_game_49 : decode cX10_game 49 = .ok (.aload_n 0, 1) := by decide +kernel
theorem dX10_game_50 : decode cX10_game 50 = .ok (.getfield 85, 3) := by decide +kernel
theorem dX10_game_53 : decode cX10_game 53 = .ok (.aload_n 0, 1) := by decide +kernel
theorem dX10_game_54 : decode cX10_game 54 = .ok (.getfield 49, 3) := by decide +kernel
theorem dX10_game_57 : decode cX10_game 57 = .ok (.iload_n 3, 1) := by decide +kernel
theorem dX10_game_58 : decode cX10_game 58 = .ok (.invokevirtual 181, 3) := by decide +kernel
theorem dX10_game_61 : decode cX10_game 61 = .ok (.iload_n 3, 1) := by decide +kernel
theorem dX10_game_62 : decode cX10_game 62 = .ok (.iload 4, 2) := by decide +kernel
theorem dX10_game_64 : decode cX10_game 64 = .ok (.invokevirtual 276, 3) := by decide +kernel
theorem dX10_game_67 : decode cX10_game 67 = .ok (.istore 7, 2) := by decide +kernel
theorem dX10_game_69 : decode cX10_game 69 = .ok (.iload 5, 2) := by decide +kernel
theorem dX10_game_71 : decode cX10_game 71 = .ok (.ifCond .ne 31, 3) := by decide +kernel
theorem dX10_game_74 : decode cX10_game 74 = .ok (.aload_n 0, 1) := by decide +kernel
theorem dX10_game_75 : decode cX10_game 75 = .ok (.getfield 85, 3) := by decide +kernel
theorem dX10_game_78 : decode cX10_game 78 = .ok (.iload 6, 2) := by decide +kernel
theorem dX10_game_80 : decode cX10_game 80 = .ok (.iload 7, 2) := by decide +kernel
theorem dX10_game_82 : decode cX10_game 82 = .ok (.aload_n 0, 1) := by decide +kernel
theorem dX10_game_83 : decode cX10_game 83 = .ok (.getfield 42, 3) := by decide +kernel
theorem dX10_game_86 : decode cX10_game 86 = .ok (.iload_n 1, 1) := by decide +kernel
theorem dX10_game_87 : decode cX10_game 87 = .ok (.invokevirtual 187, 3) := by decide +kernel
theorem dX10_game_90 : decode cX10_game 90 = .ok (.aload_n 0, 1) := by decide +kernel
theorem dX10_game_91 : decode cX10_game 91 = .ok (.getfield 42, 3) := by decide +kernel
theorem dX10_game_94 : decode cX10_game 94 = .ok (.iload_n 3, 1) := by decide +kernel
theorem dX10_game_95 : decode cX10_game 95 = .ok (.invokevirtual 187, 3) := by decide +kernel
theorem dX10_game_98 : decode cX10_game 98 = .ok (.invokevirtual 287, 3) := by decide +kernel
theorem dX10_game_101 : decode cX10_game 101 = .ok (.ireturn, 1) := by decide +kernel
theorem dX10_game_102 : decode cX10_game 102 = .ok (.aload_n 0, 1) := by decide +kernel
theorem dX10_game_103 : decode cX10_game 103 = .ok (.getfield 85, 3) := by decide +kernel
theorem dX10_game_106 : decode cX10_game 106 = .ok (.iload 7, 2) := by decide +kernel
theorem dX10_game_108 : decode cX10_game 108 = .ok (.iload 6, 2) := by decide +kernel
theorem dX10_game_110 : decode cX10_game 110 = .ok (.aload_n 0, 1) := by decide +kernel
theorem dX10_game_111 : decode cX10_game 111 = .ok (.getfield 42, 3) := by decide +kernel
theorem dX10_game_114 : decode cX10_game 114 = .ok (.iload_n 3, 1) := by decide +kernel
theorem dX10_game_115 : decode cX10_game 115 = .ok (.invokevirtual 187, 3) := by decide +kernel
theorem dX10_game_118 : decode cX10_game 118 = .ok (.aload_n 0, 1) := by decide +kernel
theorem dX10_game_119 : decode cX10_game 119 = .ok (.getfield 42, 3) := by decide +kernel
theorem dX10_game_122 : decode cX10_game 122 = .ok (.iload_n 1, 1) := by decide +kernel
theorem dX10_game_123 : decode cX10_game 123 = .ok (.invokevirtual 187, 3) := by decide +kernel
theorem dX10_game_126 : decode cX10_game 126 = .ok (.invokevirtual 287, 3) := by decide +kernel
theorem dX10_game_129 : decode cX10_game 129 = .ok (.ireturn, 1) := by decide +kernel
theorem dX10_rests_0 : decode cX10_rests 0 = .ok (.aload_n 0, 1) := by decide +kernel
theorem dX10_rests_1 : decode cX10_rests 1 = .ok (.getfield 85, 3) := by decide +kernel
theorem dX10_rests_4 : decode cX10_rests 4 = .ok (.iload_n 1, 1) := by decide +kernel
theorem dX10_rests_5 : decode cX10_rests 5 = .ok (.iconst 1, 1) := by decide +kernel
theorem dX10_rests_6 : decode cX10_rests 6 = .ok (.iload_n 2, 1) := by decide +kernel
theorem dX10_rests_7 : decode cX10_rests 7 = .ok (.iconst 1, 1) := by decide +kernel
theorem dX10_rests_8 : decode cX10_rests 8 = .ok (.invokevirtual 213, 3) := by decide +kernel
theorem dX10_rests_11 : decode cX10_rests 11 = .ok (.iconst (-1), 1) := by decide +kernel
theorem dX10_rests_12 : decode cX10_rests 12 = .ok (.if_icmp .eq 5, 3) := by decide +kernel
theorem dX10_rests_15 : decode cX10_rests 15 = .ok (.iconst (-1), 1) := by decide +kernel
theorem dX10_rests_16 : decode cX10_rests 16 = .ok (.ireturn, 1) := by decide +kernel
theorem dX10_rests_17 : decode cX10_rests 17 = .ok (.aload_n 0, 1) := by decide +kernel
theorem dX10_rests_18 : decode cX10_rests 18 = .ok (.getfield 85, 3) := by decide +kernel
theorem dX10_rests_21 : decode cX10_rests 21 = .ok (.iload_n 1, 1) := by decide +kernel
theorem dX10_rests_22 : decode cX10_rests 22 = .ok (.iload_n 2, 1) := by decide +kernel
theorem dX10_rests_23 : decode cX10_rests 23 = .ok (.iload_n 3, 1) := by decide +kernel
theorem dX10_rests_24 : decode cX10_rests 24 = .ok (.invokevirtual 290, 3) := by decide +kernel
theorem dX10_rests_27 : decode cX10_rests 27 = .ok (.ireturn, 1) := by decide +kernel
theorem dX10_odds_0 : decode cX10_odds 0 = .ok (.iload 5, 2) := by decide +kernel
theorem dX10_odds_2 : decode cX10_odds 2 = .ok (.ifCond .lt 26, 3) := by decide +kernel
theorem dX10_odds_5 : decode cX10_odds 5 = .ok (.iload 5, 2) := by decide +kernel
theorem dX10_odds_7 : decode cX10_odds 7 = .ok (.bipush 100, 2) := by decide +kernel
theorem dX10_odds_9 : decode cX10_odds 9 = .ok (.if_icmp .gt 19, 3) := by decide +kernel
theorem dX10_odds_12 : decode cX10_odds 12 = .ok (.aload_n 0, 1) := by decide +kernel
theorem dX10_odds_13 : decode cX10_odds 13 = .ok (.getfield 85, 3) := by decide +kernel
theorem dX10_odds_16 : decode cX10_odds 16 = .ok (.iload_n 1, 1) := by decide +kernel
theorem dX10_odds_17 : decode cX10_odds 17 = .ok (.iload_n 2, 1) := by decide +kernel
theorem dX10_odds_18 : decode cX10_odds 18 = .ok (.iload_n 3, 1) := by decide +kernel
theorem dX10_odds_19 : decode cX10_odds 19 = .ok (.iload 4, 2) := by decide +kernel
theorem dX10_odds_21 : decode cX10_odds 21 = .ok (.invokevirtual 213, 3) := by decide +kernel
theorem dX10_odds_24 : decode cX10_odds 24 = .ok (.iconst (-1), 1) := by decide +kernel
theorem dX10_odds_25 : decode cX10_odds 25 = .ok (.if_icmp .eq 5, 3) := by decide +kernel
theorem dX10_odds_28 : decode cX10_odds 28 = .ok (.iconst (-1), 1) := by decide +kernel
theorem dX10_odds_29 : decode cX10_odds 29 = .ok (.ireturn, 1) := by decide +kernel
theorem dX10_odds_30 : decode cX10_odds 30 = .ok (.aload_n 0, 1) := by decide +kernel
theorem dX10_odds_31 : decode cX10_odds 31 = .ok (.getfield 85, 3) := by decide +kernel
theorem dX10_odds_34 : decode cX10_odds 34 = .ok (.aload_n 0, 1) := by decide +kernel
theorem dX10_odds_35 : decode cX10_odds 35 = .ok (.getfield 49, 3) := by decide +kernel
theorem dX10_odds_38 : decode cX10_odds 38 = .ok (.iload_n 1, 1) := by decide +kernel
theorem dX10_odds_39 : decode cX10_odds 39 = .ok (.invokevirtual 181, 3) := by decide +kernel
theorem dX10_odds_42 : decode cX10_odds 42 = .ok (.iload_n 1, 1) := by decide +kernel
theorem dX10_odds_43 : decode cX10_odds 43 = .ok (.iload_n 2, 1) := by decide +kernel
theorem dX10_odds_44 : decode cX10_odds 44 = .ok (.invokevirtual 276, 3) := by decide +kernel
theorem dX10_odds_47 : decode cX10_odds 47 = .ok (.istore 6, 2) := by decide +kernel
theorem dX10_odds_49 : decode cX10_odds 49 = .ok (.aload_n 0, 1) := by decide +kernel
theorem dX10_odds_50 : decode cX10_odds 50 = .ok (.getfield 85, 3) := by decide +kernel
theorem dX10_odds_53 : decode cX10_odds 53 = .ok (.aload_n 0, 1) := by decide +kernel
theorem dX10_odds_54 : decode cX10_odds 54 = .ok (.getfield 49, 3) := by decide +kernel
theorem dX10_odds_57 : decode cX10_odds 57 = .ok (.iload_n 3, 1) := by decide +kernel
theorem dX10_odds_58 : decode cX10_odds 58 = .ok (.invokevirtual 181, 3) := by decide +kernel
theorem dX10_odds_61 : decode cX10_odds 61 = .ok (.iload_n 3, 1) := by decide +kernel
theorem dX10_odds_62 : decode cX10_odds 62 = .ok (.iload 4, 2) := by decide +kernel
theorem dX10_odds_64 : decode cX10_odds 64 = .ok (.invokevirtual 276, 3) := by decide +kernel
theorem dX10_odds_67 : decode cX10_odds 67 = .ok (.istore 7, 2) := by decide +kernel
theorem dX10_odds_69 : decode cX10_odds 69 = .ok (.aload_n 0, 1) := by decide +kernel
theorem dX10_odds_70 : decode cX10_odds 70 = .ok (.getfield 85, 3) := by decide +kernel
theorem dX10_odds_73 : decode cX10_odds 73 = .ok (.iload 6, 2) := by decide +kernel
theorem dX10_odds_75 : decode cX10_odds 75 = .ok (.iload 7, 2) := by decide +kernel
theorem dX10_odds_77 : decode cX10_odds 77 = .ok (.iload 5, 2) := by decide +kernel
theorem dX10_odds_79 : decode cX10_odds 79 = .ok (.invokevirtual 293, 3) := by decide +kernel
theorem dX10_odds_82 : decode cX10_odds 82 = .ok (.ireturn, 1) := by decide +kernel
theorem dX10_weather_0 : decode cX10_weather 0 = .ok (.aload_n 0, 1) := by decide +kernel
theorem dX10_weather_1 : decode cX10_weather 1 = .ok (.getfield 42, 3) := by decide +kernel
theorem dX10_weather_4 : decode cX10_weather 4 = .ok (.invokevirtual 139, 3) := by decide +kernel
theorem dX10_weather_7 : decode cX10_weather 7 = .ok (.ifCond .eq 13, 3) := by decide +kernel
theorem dX10_weather_10 : decode cX10_weather 10 = .ok (.iload_n 1, 1) := by decide +kernel
theorem dX10_weather_11 : decode cX10_weather 11 = .ok (.ifCond .lt 9, 3) := by decide +kernel
theorem dX10_weather_14 : decode cX10_weather 14 = .ok (.iload_n 1, 1) := by decide +kernel
theorem dX10_weather_15 : decode cX10_weather 15 = .ok (.bipush 10, 2) := by decide +kernel
theorem dX10_weather_17 : decode cX10_weather 17 = .ok (.if_icmp .lt 6, 3) := by decide +kernel
theorem dX10_weather_20 : decode cX10_weather 20 = .ok (.ldc 180, 2) := by decide +kernel
theorem dX10_weather_22 : decode cX10_weather 22 = .ok (.ireturn, 1) := by decide +kernel
theorem dX10_weather_23 : decode cX10_weather 23 = .ok (.aload_n 0, 1) := by decide +kernel
theorem dX10_weather_24 : decode cX10_weather 24 = .ok (.getfield 67, 3) := by decide +kernel
theorem dX10_weather_27 : decode cX10_weather 27 = .ok (.invokevirtual 296, 3) := by decide +kernel
theorem dX10_weather_30 : decode cX10_weather 30 = .ok (.aload_n 0, 1) := by decide +kernel
theorem dX10_weather_31 : decode cX10_weather 31 = .ok (.getfield 67, 3) := by decide +kernel
theorem dX10_weather_34 : decode cX10_weather 34 = .ok (.iload_n 1, 1) := by decide +kernel
theorem dX10_weather_35 : decode cX10_weather 35 = .ok (.invokevirtual 299, 3) := by decide +kernel
theorem dX10_weather_38 : decode cX10_weather 38 = .ok (.ireturn, 1) := by decide +kernel
theorem dX10_spell_0 : decode cX10_spell 0 = .ok (.aload_n 0, 1) := by decide +kernel
theorem dX10_spell_1 : decode cX10_spell 1 = .ok (.iload_n 1, 1) := by decide +kernel
theorem dX10_spell_2 : decode cX10_spell 2 = .ok (.iload_n 2, 1) := by decide +kernel
theorem dX10_spell_3 : decode cX10_spell 3 = .ok (.invokevirtual 302, 3) := by decide +kernel
theorem dX10_spell_6 : decode cX10_spell 6 = .ok (.ifCond .ne 5, 3) := by decide +kernel
theorem dX10_spell_9 : decode cX10_spell 9 = .ok (.iconst (-1), 1) := by decide +kernel
theorem dX10_spell_10 : decode cX10_spell 10 = .ok (.ireturn, 1) := by decide +kernel
theorem dX10_spell_11 : decode cX10_spell 11 = .ok (.aload_n 0, 1) := by decide +kernel
theorem dX10_spell_12 : decode cX10_spell 12 = .ok (.getfield 67, 3) := by decide +kernel
theorem dX10_spell_15 : decode cX10_spell 15 = .ok (.invokevirtual 296, 3) := by decide +kernel
theorem dX10_spell_18 : decode cX10_spell 18 = .ok (.aload_n 0, 1) := by decide +kernel
theorem dX10_spell_19 : decode cX10_spell 19 = .ok (.getfield 67, 3) := by decide +kernel
theorem dX10_spell_22 : decode cX10_spell 22 = .ok (.iload_n 1, 1) := by decide +kernel
theorem dX10_spell_23 : decode cX10_spell 23 = .ok (.iload_n 2, 1) := by decide +kernel
theorem dX10_spell_24 : decode cX10_spell 24 = .ok (.invokevirtual 306, 3) := by decide +kernel
theorem dX10_spell_27 : decode cX10_spell 27 = .ok (.ireturn, 1) := by decide +kernel
theorem dX10_arrange_0 : decode cX10_arrange 0 = .ok (.aload_n 0, 1) := by decide +kernel
theorem dX10_arrange_1 : decode cX10_arrange 1 = .ok (.getfield 42, 3) := by decide +kernel
theorem dX10_arrange_4 : decode cX10_arrange 4 = .ok (.invokevirtual 139, 3) := by decide +kernel
theorem dX10_arrange_7 : decode cX10_arrange 7 = .ok (.ifCond .eq 12, 3) := by decide +kernel
theorem dX10_arrange_10 : decode cX10_arrange 10 = .ok (.iload_n 1, 1) := by decide +kernel
theorem dX10_arrange_11 : decode cX10_arrange 11 = .ok (.ifCond .lt 8, 3) := by decide +kernel
theorem dX10_arrange_14 : decode cX10_arrange 14 = .ok (.iload_n 1, 1) := by decide +kernel
theorem dX10_arrange_15 : decode cX10_arrange 15 = .ok (.iconst 1, 1) := by decide +kernel
theorem dX10_arrange_16 : decode cX10_arrange 16 = .ok (.if_icmp .le 5, 3) := by decide +kernel
theorem dX10_arrange_19 : decode cX10_arrange 19 = .ok (.iconst (-1), 1) := by decide +kernel
theorem dX10_arrange_20 : decode cX10_arrange 20 = .ok (.ireturn, 1) := by decide +kernel
theorem dX10_arrange_21 : decode cX10_arrange 21 = .ok (.aload_n 0, 1) := by decide +kernel
theorem dX10_arrange_22 : decode cX10_arrange 22 = .ok (.getfield 67, 3) := by decide +kernel
theorem dX10_arrange_25 : decode cX10_arrange 25 = .ok (.invokevirtual 309, 3) := by decide +kernel
theorem dX10_arrange_28 : decode cX10_arrange 28 = .ok (.ifCond .ne 5, 3) := by decide +kernel
theorem dX10_arrange_31 : decode cX10_arrange 31 = .ok (.iconst (-1), 1) := by decide +kernel
theorem dX10_arrange_32 : decode cX10_arrange 32 = .ok (.ireturn, 1) := by decide +kernel
theorem dX10_arrange_33 : decode cX10_arrange 33 = .ok (.iload_n 1, 1) := by decide +kernel
theorem dX10_arrange_34 : decode cX10_arrange 34 = .ok (.ifCond .ne 13, 3) := by decide +kernel
theorem dX10_arrange_37 : decode cX10_arrange 37 = .ok (.aload_n 0, 1) := by decide +kernel
theorem dX10_arrange_38 : decode cX10_arrange 38 = .ok (.getfield 67, 3) := by decide +kernel
theorem dX10_arrange_41 : decode cX10_arrange 41 = .ok (.invokevirtual 312, 3) := by decide +kernel
theorem dX10_arrange_44 : decode cX10_arrange 44 = .ok (.goto 10, 3) := by decide +kernel
theorem dX10_arrange_47 : decode cX10_arrange 47 = .ok (.aload_n 0, 1) := by decide +kernel
theorem dX10_arrange_48 : decode cX10_arrange 48 = .ok (.getfield 67, 3) := by decide +kernel
theorem dX10_arrange_51 : decode cX10_arrange 51 = .ok (.invokevirtual 315, 3) := by decide +kernel
theorem dX10_arrange_54 : decode cX10_arrange 54 = .ok (.ireturn, 1) := by decide +kernel
theorem dX10_seen_0 : decode cX10_seen 0 = .ok (.aload_n 0, 1) := by decide +kernel
theorem dX10_seen_1 : decode cX10_seen 1 = .ok (.iload_n 1, 1) := by decide +kernel
theorem dX10_seen_2 : decode cX10_seen 2 = .ok (.iload_n 2, 1) := by decide +kernel
theorem dX10_seen_3 : decode cX10_seen 3 = .ok (.invokevirtual 302, 3) := by decide +kernel
theorem dX10_seen_6 : decode cX10_seen 6 = .ok (.ifCond .eq 15, 3) := by decide +kernel
theorem dX10_seen_9 : decode cX10_seen 9 = .ok (.aload_n 0, 1) := by decide +kernel
theorem dX10_seen_10 : decode cX10_seen 10 = .ok (.getfield 76, 3) := by decide +kernel
theorem dX10_seen_13 : decode cX10_seen 13 = .ok (.invokevirtual 318, 3) := by decide +kernel
theorem dX10_seen_16 : decode cX10_seen 16 = .ok (.bipush 10, 2) := by decide +kernel
theorem dX10_seen_18 : decode cX10_seen 18 = .ok (.if_icmp .lt 5, 3) := by decide +kernel
theorem dX10_seen_21 : decode cX10_seen 21 = .ok (.iconst (-1), 1) := by decide +kernel
theorem dX10_seen_22 : decode cX10_seen 22 = .ok (.ireturn, 1) := by decide +kernel
theorem dX10_seen_23 : decode cX10_seen 23 = .ok (.aload_n 0, 1) := by decide +kernel
theorem dX10_seen_24 : decode cX10_seen 24 = .ok (.getfield 76, 3) := by decide +kernel
theorem dX10_seen_27 : decode cX10_seen 27 = .ok (.iload_n 1, 1) := by decide +kernel
theorem dX10_seen_28 : decode cX10_seen 28 = .ok (.iload_n 2, 1) := by decide +kernel
theorem dX10_seen_29 : decode cX10_seen 29 = .ok (.iload_n 3, 1) := by decide +kernel
theorem dX10_seen_30 : decode cX10_seen 30 = .ok (.invokevirtual 319, 3) := by decide +kernel
theorem dX10_seen_33 : decode cX10_seen 33 = .ok (.aload_n 0, 1) := by decide +kernel
theorem dX10_seen_34 : decode cX10_seen 34 = .ok (.getfield 76, 3) := by decide +kernel
theorem dX10_seen_37 : decode cX10_seen 37 = .ok (.invokevirtual 318, 3) := by decide +kernel
theorem dX10_seen_40 : decode cX10_seen 40 = .ok (.ireturn, 1) := by decide +kernel
theorem dX10_who_0 : decode cX10_who 0 = .ok (.aload_n 0, 1) := by decide +kernel
theorem dX10_who_1 : decode cX10_who 1 = .ok (.getfield 42, 3) := by decide +kernel
theorem dX10_who_4 : decode cX10_who 4 = .ok (.invokevirtual 139, 3) := by decide +kernel
theorem dX10_who_7 : decode cX10_who 7 = .ok (.ifCond .ne 5, 3) := by decide +kernel
theorem dX10_who_10 : decode cX10_who 10 = .ok (.iconst (-1), 1) := by decide +kernel
theorem dX10_who_11 : decode cX10_who 11 = .ok (.ireturn, 1) := by decide +kernel
theorem dX10_who_12 : decode cX10_who 12 = .ok (.aload_n 0, 1) := by decide +kernel
theorem dX10_who_13 : decode cX10_who 13 = .ok (.getfield 76, 3) := by decide +kernel
theorem dX10_who_16 : decode cX10_who 16 = .ok (.invokevirtual 322, 3) := by decide +kernel
theorem dX10_who_19 : decode cX10_who 19 = .ok (.istore_n 2, 1) := by decide +kernel
theorem dX10_who_20 : decode cX10_who 20 = .ok (.iload_n 1, 1) := by decide +kernel
theorem dX10_who_21 : decode cX10_who 21 = .ok (.iconst (-1), 1) := by decide +kernel
theorem dX10_who_22 : decode cX10_who 22 = .ok (.if_icmp .ne 7, 3) := by decide +kernel
theorem dX10_who_25 : decode cX10_who 25 = .ok (.iload_n 2, 1) := by decide +kernel
theorem dX10_who_26 : decode cX10_who 26 = .ok (.goto 11, 3) := by decide +kernel
theorem dX10_who_29 : decode cX10_who 29 = .ok (.aload_n 0, 1) := by decide +kernel
theorem dX10_who_30 : decode cX10_who 30 = .ok (.getfield 76, 3) := by decide +kernel
theorem dX10_who_33 : decode cX10_who 33 = .ok (.iload_n 1, 1) := by decide +kernel
theorem dX10_who_34 : decode cX10_who 34 = .ok (.invokevirtual 325, 3) := by decide +kernel
theorem dX10_who_37 : decode cX10_who 37 = .ok (.ireturn, 1) := by decide +kernel
theorem dX10_best_0 : decode cX10_best 0 = .ok (.aload_n 0, 1) := by decide +kernel
theorem dX10_best_1 : decode cX10_best 1 = .ok (.getfield 42, 3) := by decide +kernel
theorem dX10_best_4 : decode cX10_best 4 = .ok (.invokevirtual 139, 3) := by decide +kernel
theorem dX10_best_7 : decode cX10_best 7 = .ok (.ifCond .eq 13, 3) := by decide +kernel
theorem dX10_best_10 : decode cX10_best 10 = .ok (.aload_n 0, 1) := by decide +kernel
theorem dX10_best_11 : decode cX10_best 11 = .ok (.getfield 76, 3) := by decide +kernel
theorem dX10_best_14 : decode cX10_best 14 = .ok (.invokevirtual 328, 3) := by decide +kernel
theorem dX10_best_17 : decode cX10_best 17 = .ok (.goto 4, 3) := by decide +kernel
theorem dX10_best_20 : decode cX10_best 20 = .ok (.iconst (-1), 1) := by decide +kernel
theorem dX10_best_21 : decode cX10_best 21 = .ok (.ireturn, 1) := by decide +kernel
theorem dX10_corner_0 : decode cX10_corner 0 = .ok (.iload_n 1, 1) := by decide +kernel
theorem dX10_corner_1 : decode cX10_corner 1 = .ok (.ifCond .lt 9, 3) := by decide +kernel
theorem dX10_corner_4 : decode cX10_corner 4 = .ok (.iload_n 1, 1) := by decide +kernel
theorem dX10_corner_5 : decode cX10_corner 5 = .ok (.bipush 6, 2) := by decide +kernel
theorem dX10_corner_7 : decode cX10_corner 7 = .ok (.if_icmp .lt 5, 3) := by decide +kernel
theorem dX10_corner_10 : decode cX10_corner 10 = .ok (.iconst (-1), 1) := by decide +kernel
theorem dX10_corner_11 : decode cX10_corner 11 = .ok (.ireturn, 1) := by decide +kernel
theorem dX10_corner_12 : decode cX10_corner 12 = .ok (.iconst (-1), 1) := by decide +kernel
theorem dX10_corner_13 : decode cX10_corner 13 = .ok (.istore_n 2, 1) := by decide +kernel
theorem dX10_corner_14 : decode cX10_corner 14 = .ok (.iconst 0, 1) := by decide +kernel
theorem dX10_corner_15 : decode cX10_corner 15 = .ok (.istore_n 3, 1) := by decide +kernel
theorem dX10_corner_16 : decode cX10_corner 16 = .ok (.iload_n 3, 1) := by decide +kernel
theorem dX10_corner_17 : decode cX10_corner 17 = .ok (.aload_n 0, 1) := by decide +kernel
theorem dX10_corner_18 : decode cX10_corner 18 = .ok (.getfield 42, 3) := by decide +kernel
theorem dX10_corner_21 : decode cX10_corner 21 = .ok (.invokevirtual 131, 3) := by decide +kernel
theorem dX10_corner_24 : decode cX10_corner 24 = .ok (.if_icmp .ge 63, 3) := by decide +kernel
theorem dX10_corner_27 : decode cX10_corner 27 = .ok (.aload_n 0, 1) := by decide +kernel
theorem dX10_corner_28 : decode cX10_corner 28 = .ok (.getfield 42, 3) := by decide +kernel
theorem dX10_corner_31 : decode cX10_corner 31 = .ok (.iload_n 3, 1) := by decide +kernel
theorem dX10_corner_32 : decode cX10_corner 32 = .ok (.invokevirtual 184, 3) := by decide +kernel
theorem dX10_corner_35 : decode cX10_corner 35 = .ok (.iload_n 1, 1) := by decide +kernel
theorem dX10_corner_36 : decode cX10_corner 36 = .ok (.if_icmp .ne 45, 3) := by decide +kernel
theorem dX10_corner_39 : decode cX10_corner 39 = .ok (.aload_n 0, 1) := by decide +kernel
theorem dX10_corner_40 : decode cX10_corner 40 = .ok (.getfield 49, 3) := by decide +kernel
theorem dX10_corner_43 : decode cX10_corner 43 = .ok (.iload_n 3, 1) := by decide +kernel
theorem dX10_corner_44 : decode cX10_corner 44 = .ok (.invokevirtual 233, 3) := by decide +kernel
theorem dX10_corner_47 : decode cX10_corner 47 = .ok (.ifCond .eq 6, 3) := by decide +kernel
theorem dX10_corner_50 : decode cX10_corner 50 = .ok (.goto 31, 3) := by decide +kernel
theorem dX10_corner_53 : decode cX10_corner 53 = .ok (.iload_n 2, 1) := by decide +kernel
theorem dX10_corner_54 : decode cX10_corner 54 = .ok (.iconst (-1), 1) := by decide +kernel
theorem dX10_corner_55 : decode cX10_corner 55 = .ok (.if_icmp .eq 17, 3) := by decide +kernel
theorem dX10_corner_58 : decode cX10_corner 58 = .ok (.iload_n 2, 1) := by decide +kernel
theorem dX10_corner_59 : decode cX10_corner 59 = .ok (.aload_n 0, 1) := by decide +kernel
theorem dX10_corner_60 : decode cX10_corner 60 = .ok (.getfield 49, 3) := by decide +kernel
theorem dX10_corner_63 : decode cX10_corner 63 = .ok (.iload_n 3, 1) := by decide +kernel
theorem dX10_corner_64 : decode cX10_corner 64 = .ok (.invokevirtual 181, 3) := by decide +kernel
theorem dX10_corner_67 : decode cX10_corner 67 = .ok (.if_icmp .eq 5, 3) := by decide +kernel
theorem dX10_corner_70 : decode cX10_corner 70 = .ok (.iconst (-1), 1) := by decide +kernel
theorem dX10_corner_71 : decode cX10_corner 71 = .ok (.ireturn, 1) := by decide +kernel
theorem dX10_corner_72 : decode cX10_corner 72 = .ok (.aload_n 0, 1) := by decide +kernel
theorem dX10_corner_73 : decode cX10_corner 73 = .ok (.getfield 49, 3) := by decide +kernel
theorem dX10_corner_76 : decode cX10_corner 76 = .ok (.iload_n 3, 1) := by decide +kernel
theorem dX10_corner_77 : decode cX10_corner 77 = .ok (.invokevirtual 181, 3) := by decide +kernel
theorem dX10_corner_80 : decode cX10_corner 80 = .ok (.istore_n 2, 1) := by decide +kernel
theorem dX10_corner_81 : decode cX10_corner 81 = .ok (.iinc 3 1, 3) := by decide +kernel
theorem dX10_corner_84 : decode cX10_corner 84 = .ok (.goto (-68), 3) := by decide +kernel
theorem dX10_corner_87 : decode cX10_corner 87 = .ok (.iload_n 2, 1) := by decide +kernel
theorem dX10_corner_88 : decode cX10_corner 88 = .ok (.ireturn, 1) := by decide +kernel
theorem dX10_liking_0 : decode cX10_liking 0 = .ok (.aload_n 0, 1) := by decide +kernel
theorem dX10_liking_1 : decode cX10_liking 1 = .ok (.getfield 42, 3) := by decide +kernel
theorem dX10_liking_4 : decode cX10_liking 4 = .ok (.iload_n 1, 1) := by decide +kernel
theorem dX10_liking_5 : decode cX10_liking 5 = .ok (.invokevirtual 152, 3) := by decide +kernel
theorem dX10_liking_8 : decode cX10_liking 8 = .ok (.ifCond .eq 14, 3) := by decide +kernel
theorem dX10_liking_11 : decode cX10_liking 11 = .ok (.aload_n 0, 1) := by decide +kernel
theorem dX10_liking_12 : decode cX10_liking 12 = .ok (.getfield 42, 3) := by decide +kernel
theorem dX10_liking_15 : decode cX10_liking 15 = .ok (.iload_n 2, 1) := by decide +kernel
theorem dX10_liking_16 : decode cX10_liking 16 = .ok (.invokevirtual 177, 3) := by decide +kernel
theorem dX10_liking_19 : decode cX10_liking 19 = .ok (.ifCond .ne 5, 3) := by decide +kernel
theorem dX10_liking_22 : decode cX10_liking 22 = .ok (.iconst (-1), 1) := by decide +kernel
theorem dX10_liking_23 : decode cX10_liking 23 = .ok (.ireturn, 1) := by decide +kernel
theorem dX10_liking_24 : decode cX10_liking 24 = .ok (.aload_n 0, 1) := by decide +kernel
theorem dX10_liking_25 : decode cX10_liking 25 = .ok (.iload_n 1, 1) := by decide +kernel
theorem dX10_liking_26 : decode cX10_liking 26 = .ok (.iload_n 2, 1) := by decide +kernel
theorem dX10_liking_27 : decode cX10_liking 27 = .ok (.invokevirtual 331, 3) := by decide +kernel
theorem dX10_liking_30 : decode cX10_liking 30 = .ok (.ireturn, 1) := by decide +kernel
theorem dX10_trades_0 : decode cX10_trades 0 = .ok (.aload_n 0, 1) := by decide +kernel
theorem dX10_trades_1 : decode cX10_trades 1 = .ok (.getfield 42, 3) := by decide +kernel
theorem dX10_trades_4 : decode cX10_trades 4 = .ok (.invokevirtual 139, 3) := by decide +kernel
theorem dX10_trades_7 : decode cX10_trades 7 = .ok (.ifCond .ne 5, 3) := by decide +kernel
theorem dX10_trades_10 : decode cX10_trades 10 = .ok (.iconst (-1), 1) := by decide +kernel
theorem dX10_trades_11 : decode cX10_trades 11 = .ok (.ireturn, 1) := by decide +kernel
theorem dX10_trades_12 : decode cX10_trades 12 = .ok (.iconst 0, 1) := by decide +kernel
theorem dX10_trades_13 : decode cX10_trades 13 = .ok (.istore_n 2, 1) := by decide +kernel
theorem dX10_trades_14 : decode cX10_trades 14 = .ok (.iconst 0, 1) := by decide +kernel
theorem dX10_trades_15 : decode cX10_trades 15 = .ok (.istore_n 3, 1) := by decide +kernel
theorem dX10_trades_16 : decode cX10_trades 16 = .ok (.iload_n 3, 1) := by decide +kernel
theorem dX10_trades_17 : decode cX10_trades 17 = .ok (.aload_n 0, 1) := by decide +kernel
theorem dX10_trades_18 : decode cX10_trades 18 = .ok (.getfield 42, 3) := by decide +kernel
theorem dX10_trades_21 : decode cX10_trades 21 = .ok (.invokevirtual 131, 3) := by decide +kernel
theorem dX10_trades_24 : decode cX10_trades 24 = .ok (.if_icmp .ge 58, 3) := by decide +kernel
theorem dX10_trades_27 : decode cX10_trades 27 = .ok (.iload_n 3, 1) := by decide +kernel
theorem dX10_trades_28 : decode cX10_trades 28 = .ok (.iconst 1, 1) := by decide +kernel
theorem dX10_trades_29 : decode cX10_trades 29 = .ok (.iadd, 1) := by decide +kernel
theorem dX10_trades_30 : decode cX10_trades 30 = .ok (.istore 4, 2) := by decide +kernel
theorem dX10_trades_32 : decode cX10_trades 32 = .ok (.iload 4, 2) := by decide +kernel
theorem dX10_trades_34 : decode cX10_trades 34 = .ok (.aload_n 0, 1) := by decide +kernel
theorem dX10_trades_35 : decode cX10_trades 35 = .ok (.getfield 42, 3) := by decide +kernel
theorem dX10_trades_38 : decode cX10_trades 38 = .ok (.invokevirtual 131, 3) := by decide +kernel
theorem dX10_trades_41 : decode cX10_trades 41 = .ok (.if_icmp .ge 35, 3) := by decide +kernel
theorem dX10_trades_44 : decode cX10_trades 44 = .ok (.aload_n 0, 1) := by decide +kernel
theorem dX10_trades_45 : decode cX10_trades 45 = .ok (.iload_n 3, 1) := by decide +kernel
theorem dX10_trades_46 : decode cX10_trades 46 = .ok (.iload 4, 2) := by decide +kernel
theorem dX10_trades_48 : decode cX10_trades 48 = .ok (.invokevirtual 334, 3) := by decide +kernel
theorem dX10_trades_51 : decode cX10_trades 51 = .ok (.ifCond .eq 19, 3) := by decide +kernel
theorem dX10_trades_54 : decode cX10_trades 54 = .ok (.iload_n 2, 1) := by decide +kernel
theorem dX10_trades_55 : decode cX10_trades 55 = .ok (.iload_n 1, 1) := by decide +kernel
theorem dX10_trades_56 : decode cX10_trades 56 = .ok (.if_icmp .ne 11, 3) := by decide +kernel
theorem dX10_trades_59 : decode cX10_trades 59 = .ok (.bipush 10, 2) := by decide +kernel
theorem dX10_trades_61 : decode cX10_trades 61 = .ok (.iload_n 3, 1) := by decide +kernel
theorem dX10_trades_62 : decode cX10_trades 62 = .ok (.imul, 1) := by decide +kernel
theorem dX10_trades_63 : decode cX10_trades 63 = .ok (.iload 4, 2) := by decide +kernel
theorem dX10_trades_65 : decode cX10_trades 65 = .ok (.iadd, 1) := by decide +kernel
theorem dX10_trades_66 : decode cX10_trades 66 = .ok (.ireturn, 1) := by decide +kernel
theorem dX10_trades_67 : decode cX10_trades 67 = .ok (.iinc 2 1, 3) := by decide +kernel
theorem dX10_trades_70 : decode cX10_trades 70 = .ok (.iinc 4 1, 3) := by decide +kernel
theorem dX10_trades_73 : decode cX10_trades 73 = .ok (.goto (-41), 3) := by decide +kernel
theorem dX10_trades_76 : decode cX10_trades 76 = .ok (.iinc 3 1, 3) := by decide +kernel
theorem dX10_trades_79 : decode cX10_trades 79 = .ok (.goto (-63), 3) := by decide +kernel
theorem dX10_trades_82 : decode cX10_trades 82 = .ok (.iload_n 1, 1) := by decide +kernel
theorem dX10_trades_83 : decode cX10_trades 83 = .ok (.iconst (-1), 1) := by decide +kernel
theorem dX10_trades_84 : decode cX10_trades 84 = .ok (.if_icmp .ne 7, 3) := by decide +kernel
theorem dX10_trades_87 : decode cX10_trades 87 = .ok (.iload_n 2, 1) := by decide +kernel
theorem dX10_trades_88 : decode cX10_trades 88 = .ok (.goto 4, 3) := by decide +kernel
theorem dX10_trades_91 : decode cX10_trades 91 = .ok (.iconst (-1), 1) := by decide +kernel
theorem dX10_trades_92 : decode cX10_trades 92 = .ok (.ireturn, 1) := by decide +kernel
theorem dX10_shares_0 : decode cX10_shares 0 = .ok (.aload_n 0, 1) := by decide +kernel
theorem dX10_shares_1 : decode cX10_shares 1 = .ok (.getfield 42, 3) := by decide +kernel
theorem dX10_shares_4 : decode cX10_shares 4 = .ok (.iload_n 1, 1) := by decide +kernel
theorem dX10_shares_5 : decode cX10_shares 5 = .ok (.invokevirtual 152, 3) := by decide +kernel
theorem dX10_shares_8 : decode cX10_shares 8 = .ok (.ifCond .eq 14, 3) := by decide +kernel
theorem dX10_shares_11 : decode cX10_shares 11 = .ok (.iload_n 2, 1) := by decide +kernel
theorem dX10_shares_12 : decode cX10_shares 12 = .ok (.ifCond .lt 10, 3) := by decide +kernel
theorem dX10_shares_15 : decode cX10_shares 15 = .ok (.iload_n 2, 1) := by decide +kernel
theorem dX10_shares_16 : decode cX10_shares 16 = .ok (.sipush 999, 3) := by decide +kernel
theorem dX10_shares_19 : decode cX10_shares 19 = .ok (.if_icmp .le 5, 3) := by decide +kernel
theorem dX10_shares_22 : decode cX10_shares 22 = .ok (.iconst (-1), 1) := by decide +kernel
theorem dX10_shares_23 : decode cX10_shares 23 = .ok (.ireturn, 1) := by decide +kernel
theorem dX10_shares_24 : decode cX10_shares 24 = .ok (.iconst 0, 1) := by decide +kernel
theorem dX10_shares_25 : decode cX10_shares 25 = .ok (.istore_n 3, 1) := by decide +kernel
theorem dX10_shares_26 : decode cX10_shares 26 = .ok (.iconst 0, 1) := by decide +kernel
theorem dX10_shares_27 : decode cX10_shares 27 = .ok (.istore 4, 2) := by decide +kernel
theorem dX10_shares_29 : decode cX10_shares 29 = .ok (.iconst 0, 1) := by decide +kernel
theorem dX10_shares_30 : decode cX10_shares 30 = .ok (.istore 5, 2) := by decide +kernel
theorem dX10_shares_32 : decode cX10_shares 32 = .ok (.iload 5, 2) := by decide +kernel
theorem dX10_shares_34 : decode cX10_shares 34 = .ok (.aload_n 0, 1) := by decide +kernel
theorem dX10_shares_35 : decode cX10_shares 35 = .ok (.getfield 42, 3) := by decide +kernel
theorem dX10_shares_38 : decode cX10_shares 38 = .ok (.invokevirtual 131, 3) := by decide +kernel
theorem dX10_shares_41 : decode cX10_shares 41 = .ok (.if_icmp .ge 64, 3) := by decide +kernel
theorem dX10_shares_44 : decode cX10_shares 44 = .ok (.aload_n 0, 1) := by decide +kernel
theorem dX10_shares_45 : decode cX10_shares 45 = .ok (.getfield 49, 3) := by decide +kernel
theorem dX10_shares_48 : decode cX10_shares 48 = .ok (.iload 5, 2) := by decide +kernel
theorem dX10_shares_50 : decode cX10_shares 50 = .ok (.invokevirtual 233, 3) := by decide +kernel
theorem dX10_shares_53 : decode cX10_shares 53 = .ok (.ifCond .ne 46, 3) := by decide +kernel
theorem dX10_shares_56 : decode cX10_shares 56 = .ok (.iload 4, 2) := by decide +kernel
theorem dX10_shares_58 : decode cX10_shares 58 = .ok (.aload_n 0, 1) := by decide +kernel
theorem dX10_shares_59 : decode cX10_shares 59 = .ok (.getfield 42, 3) := by decide +kernel
theorem dX10_shares_62 : decode cX10_shares 62 = .ok (.iload 5, 2) := by decide +kernel
theorem dX10_shares_64 : decode cX10_shares 64 = .ok (.invokevirtual 187, 3) := by decide +kernel
theorem dX10_shares_67 : decode cX10_shares 67 = .ok (.iadd, 1) := by decide +kernel
theorem dX10_shares_68 : decode cX10_shares 68 = .ok (.istore 4, 2) := by decide +kernel
theorem dX10_shares_70 : decode cX10_shares 70 = .ok (.iload_n 3, 1) := by decide +kernel
theorem dX10_shares_71 : decode cX10_shares 71 = .ok (.aload_n 0, 1) := by decide +kernel
theorem dX10_shares_72 : decode cX10_shares 72 = .ok (.getfield 49, 3) := by decide +kernel
theorem dX10_shares_75 : decode cX10_shares 75 = .ok (.iload 5, 2) := by decide +kernel
theorem dX10_shares_77 : decode cX10_shares 77 = .ok (.invokevirtual 181, 3) := by decide +kernel
theorem dX10_shares_80 : decode cX10_shares 80 = .ok (.iload_n 1, 1) := by decide +kernel
theorem dX10_shares_81 : decode cX10_shares 81 = .ok (.if_icmp .ne 15, 3) := by decide +kernel
theorem dX10_shares_84 : decode cX10_shares 84 = .ok (.aload_n 0, 1) := by decide +kernel
theorem dX10_shares_85 : decode cX10_shares 85 = .ok (.getfield 42, 3) := by decide +kernel
theorem dX10_shares_88 : decode cX10_shares 88 = .ok (.iload 5, 2) := by decide +kernel
theorem dX10_shares_90 : decode cX10_shares 90 = .ok (.invokevirtual 187, 3) := by decide +kernel
theorem dX10_shares_93 : decode cX10_shares 93 = .ok (.goto 4, 3) := by decide +kernel
theorem dX10_shares_96 : decode cX10_shares 96 = .ok (.iconst 0, 1) := by decide +kernel
theorem dX10_shares_97 : decode cX10_shares 97 = .ok (.iadd, 1) := by decide +kernel
theorem dX10_shares_98 : decode cX10_shares 98 = .ok (.istore_n 3, 1) := by decide +kernel
theorem dX10_shares_99 : decode cX10_shares 99 = .ok (.iinc 5 1, 3) := by decide +kernel
theorem dX10_shares_102 : decode cX10_shares 102 = .ok (.goto (-70), 3) := by decide +kernel
theorem dX10_shares_105 : decode cX10_shares 105 = .ok (.iload 4, 2) := by decide +kernel
theorem dX10_shares_107 : decode cX10_shares 107 = .ok (.ifCond .ne 7, 3) := by decide +kernel
theorem dX10_shares_110 : decode cX10_shares 110 = .ok (.iconst 0, 1) := by decide +kernel
theorem dX10_shares_111 : decode cX10_shares 111 = .ok (.goto 9, 3) := by decide +kernel
theorem dX10_shares_114 : decode cX10_shares 114 = .ok (.iload_n 2, 1) := by decide +kernel
theorem dX10_shares_115 : decode cX10_shares 115 = .ok (.iload_n 3, 1) := by decide +kernel
theorem dX10_shares_116 : decode cX10_shares 116 = .ok (.imul, 1) := by decide +kernel
theorem dX10_shares_117 : decode cX10_shares 117 = .ok (.iload 4, 2) := by decide +kernel
theorem dX10_shares_119 : decode cX10_shares 119 = .ok (.idiv, 1) := by decide +kernel
theorem dX10_shares_120 : decode cX10_shares 120 = .ok (.ireturn, 1) := by decide +kernel
theorem dX10_pays_0 : decode cX10_pays 0 = .ok (.aload_n 0, 1) := by decide +kernel
theorem dX10_pays_1 : decode cX10_pays 1 = .ok (.getfield 42, 3) := by decide +kernel
theorem dX10_pays_4 : decode cX10_pays 4 = .ok (.invokevirtual 139, 3) := by decide +kernel
theorem dX10_pays_7 : decode cX10_pays 7 = .ok (.ifCond .eq 17, 3) := by decide +kernel
theorem dX10_pays_10 : decode cX10_pays 10 = .ok (.aload_n 0, 1) := by decide +kernel
theorem dX10_pays_11 : decode cX10_pays 11 = .ok (.getfield 42, 3) := by decide +kernel
theorem dX10_pays_14 : decode cX10_pays 14 = .ok (.aload_n 0, 1) := by decide +kernel
theorem dX10_pays_15 : decode cX10_pays 15 = .ok (.invokevirtual 207, 3) := by decide +kernel
theorem dX10_pays_18 : decode cX10_pays 18 = .ok (.invokevirtual 337, 3) := by decide +kernel
theorem dX10_pays_21 : decode cX10_pays 21 = .ok (.goto 4, 3) := by decide +kernel
theorem dX10_pays_24 : decode cX10_pays 24 = .ok (.iconst (-1), 1) := by decide +kernel
theorem dX10_pays_25 : decode cX10_pays 25 = .ok (.ireturn, 1) := by decide +kernel
theorem dX10_saves_0 : decode cX10_saves 0 = .ok (.aload_n 0, 1) := by decide +kernel
theorem dX10_saves_1 : decode cX10_saves 1 = .ok (.getfield 42, 3) := by decide +kernel
theorem dX10_saves_4 : decode cX10_saves 4 = .ok (.invokevirtual 139, 3) := by decide +kernel
theorem dX10_saves_7 : decode cX10_saves 7 = .ok (.ifCond .eq 15, 3) := by decide +kernel
theorem dX10_saves_10 : decode cX10_saves 10 = .ok (.iload_n 1, 1) := by decide +kernel
theorem dX10_saves_11 : decode cX10_saves 11 = .ok (.iconst 1, 1) := by decide +kernel
theorem dX10_saves_12 : decode cX10_saves 12 = .ok (.if_icmp .lt 10, 3) := by decide +kernel
theorem dX10_saves_15 : decode cX10_saves 15 = .ok (.iload_n 1, 1) := by decide +kernel
theorem dX10_saves_16 : decode cX10_saves 16 = .ok (.sipush 999, 3) := by decide +kernel
theorem dX10_saves_19 : decode cX10_saves 19 = .ok (.if_icmp .le 5, 3) := by decide +kernel
theorem dX10_saves_22 : decode cX10_saves 22 = .ok (.iconst (-1), 1) := by decide +kernel
theorem dX10_saves_23 : decode cX10_saves 23 = .ok (.ireturn, 1) := by decide +kernel
theorem dX10_saves_24 : decode cX10_saves 24 = .ok (.aload_n 0, 1) := by decide +kernel
theorem dX10_saves_25 : decode cX10_saves 25 = .ok (.getfield 42, 3) := by decide +kernel
theorem dX10_saves_28 : decode cX10_saves 28 = .ok (.aload_n 0, 1) := by decide +kernel
theorem dX10_saves_29 : decode cX10_saves 29 = .ok (.invokevirtual 207, 3) := by decide +kernel
theorem dX10_saves_32 : decode cX10_saves 32 = .ok (.invokevirtual 337, 3) := by decide +kernel
theorem dX10_saves_35 : decode cX10_saves 35 = .ok (.istore_n 2, 1) := by decide +kernel
theorem dX10_saves_36 : decode cX10_saves 36 = .ok (.iconst 0, 1) := by decide +kernel
theorem dX10_saves_37 : decode cX10_saves 37 = .ok (.istore_n 3, 1) := by decide +kernel
theorem dX10_saves_38 : decode cX10_saves 38 = .ok (.iload_n 3, 1) := by decide +kernel
theorem dX10_saves_39 : decode cX10_saves 39 = .ok (.bipush 60, 2) := by decide +kernel
theorem dX10_saves_41 : decode cX10_saves 41 = .ok (.if_icmp .gt 26, 3) := by decide +kernel
theorem dX10_saves_44 : decode cX10_saves 44 = .ok (.aload_n 0, 1) := by decide +kernel
theorem dX10_saves_45 : decode cX10_saves 45 = .ok (.getfield 49, 3) := by decide +kernel
theorem dX10_saves_48 : decode cX10_saves 48 = .ok (.getfield 148, 3) := by decide +kernel
theorem dX10_saves_51 : decode cX10_saves 51 = .ok (.iload_n 3, 1) := by decide +kernel
theorem dX10_saves_52 : decode cX10_saves 52 = .ok (.iload_n 2, 1) := by decide +kernel
theorem dX10_saves_53 : decode cX10_saves 53 = .ok (.imul, 1) := by decide +kernel
theorem dX10_saves_54 : decode cX10_saves 54 = .ok (.iadd, 1) := by decide +kernel
theorem dX10_saves_55 : decode cX10_saves 55 = .ok (.iload_n 1, 1) := by decide +kernel
theorem dX10_saves_56 : decode cX10_saves 56 = .ok (.if_icmp .lt 5, 3) := by decide +kernel
theorem dX10_saves_59 : decode cX10_saves 59 = .ok (.iload_n 3, 1) := by decide +kernel
theorem dX10_saves_60 : decode cX10_saves 60 = .ok (.ireturn, 1) := by decide +kernel
theorem dX10_saves_61 : decode cX10_saves 61 = .ok (.iinc 3 1, 3) := by decide +kernel
theorem dX10_saves_64 : decode cX10_saves 64 = .ok (.goto (-26), 3) := by decide +kernel
theorem dX10_saves_67 : decode cX10_saves 67 = .ok (.iconst (-1), 1) := by decide +kernel
theorem dX10_saves_68 : decode cX10_saves 68 = .ok (.ireturn, 1) := by decide +kernel
theorem dX10_hands_0 : decode cX10_hands 0 = .ok (.aload_n 0, 1) := by decide +kernel
theorem dX10_hands_1 : decode cX10_hands 1 = .ok (.getfield 42, 3) := by decide +kernel
theorem dX10_hands_4 : decode cX10_hands 4 = .ok (.iload_n 1, 1) := by decide +kernel
theorem dX10_hands_5 : decode cX10_hands 5 = .ok (.invokevirtual 152, 3) := by decide +kernel
theorem dX10_hands_8 : decode cX10_hands 8 = .ok (.ifCond .eq 14, 3) := by decide +kernel
theorem dX10_hands_11 : decode cX10_hands 11 = .ok (.aload_n 0, 1) := by decide +kernel
theorem dX10_hands_12 : decode cX10_hands 12 = .ok (.getfield 49, 3) := by decide +kernel
theorem dX10_hands_15 : decode cX10_hands 15 = .ok (.iload_n 1, 1) := by decide +kernel
theorem dX10_hands_16 : decode cX10_hands 16 = .ok (.invokevirtual 169, 3) := by decide +kernel
theorem dX10_hands_19 : decode cX10_hands 19 = .ok (.goto 4, 3) := by decide +kernel
theorem dX10_hands_22 : decode cX10_hands 22 = .ok (.iconst (-1), 1) := by decide +kernel
theorem dX10_hands_23 : decode cX10_hands 23 = .ok (.ireturn, 1) := by decide +kernel
theorem dX10_most_0 : decode cX10_most 0 = .ok (.aload_n 0, 1) := by decide +kernel
theorem dX10_most_1 : decode cX10_most 1 = .ok (.getfield 42, 3) := by decide +kernel
theorem dX10_most_4 : decode cX10_most 4 = .ok (.invokevirtual 139, 3) := by decide +kernel
theorem dX10_most_7 : decode cX10_most 7 = .ok (.ifCond .ne 5, 3) := by decide +kernel
theorem dX10_most_10 : decode cX10_most 10 = .ok (.iconst (-1), 1) := by decide +kernel
theorem dX10_most_11 : decode cX10_most 11 = .ok (.ireturn, 1) := by decide +kernel
theorem dX10_most_12 : decode cX10_most 12 = .ok (.iload_n 1, 1) := by decide +kernel
theorem dX10_most_13 : decode cX10_most 13 = .ok (.tableswitch 61 0 3 #[31, 36, 41, 56], 31) := by decide +kernel
theorem dX10_most_44 : decode cX10_most 44 = .ok (.aload_n 0, 1) := by decide +kernel
theorem dX10_most_45 : decode cX10_most 45 = .ok (.invokevirtual 340, 3) := by decide +kernel
theorem dX10_most_48 : decode cX10_most 48 = .ok (.ireturn, 1) := by decide +kernel
theorem dX10_most_49 : decode cX10_most 49 = .ok (.aload_n 0, 1) := by decide +kernel
theorem dX10_most_50 : decode cX10_most 50 = .ok (.invokevirtual 343, 3) := by decide +kernel
theorem dX10_most_53 : decode cX10_most 53 = .ok (.ireturn, 1) := by decide +kernel
theorem dX10_most_54 : decode cX10_most 54 = .ok (.aload_n 0, 1) := by decide +kernel
theorem dX10_most_55 : decode cX10_most 55 = .ok (.getfield 67, 3) := by decide +kernel
theorem dX10_most_58 : decode cX10_most 58 = .ok (.invokevirtual 296, 3) := by decide +kernel
theorem dX10_most_61 : decode cX10_most 61 = .ok (.aload_n 0, 1) := by decide +kernel
theorem dX10_most_62 : decode cX10_most 62 = .ok (.getfield 67, 3) := by decide +kernel
theorem dX10_most_65 : decode cX10_most 65 = .ok (.invokevirtual 346, 3) := by decide +kernel
theorem dX10_most_68 : decode cX10_most 68 = .ok (.ireturn, 1) := by decide +kernel
theorem dX10_most_69 : decode cX10_most 69 = .ok (.aload_n 0, 1) := by decide +kernel
theorem dX10_most_70 : decode cX10_most 70 = .ok (.invokevirtual 349, 3) := by decide +kernel
theorem dX10_most_73 : decode cX10_most 73 = .ok (.ireturn, 1) := by decide +kernel
theorem dX10_most_74 : decode cX10_most 74 = .ok (.iconst (-1), 1) := by decide +kernel
theorem dX10_most_75 : decode cX10_most 75 = .ok (.ireturn, 1) := by decide +kernel
theorem dX10_image_0 : decode cX10_image 0 = .ok (.aload_n 0, 1) := by decide +kernel
theorem dX10_image_1 : decode cX10_image 1 = .ok (.getfield 42, 3) := by decide +kernel
theorem dX10_image_4 : decode cX10_image 4 = .ok (.invokevirtual 139, 3) := by decide +kernel
theorem dX10_image_7 : decode cX10_image 7 = .ok (.ifCond .ne 5, 3) := by decide +kernel
theorem dX10_image_10 : decode cX10_image 10 = .ok (.iconst (-1), 1) := by decide +kernel
theorem dX10_image_11 : decode cX10_image 11 = .ok (.ireturn, 1) := by decide +kernel
theorem dX10_image_12 : decode cX10_image 12 = .ok (.aload_n 0, 1) := by decide +kernel
theorem dX10_image_13 : decode cX10_image 13 = .ok (.getfield 58, 3) := by decide +kernel
theorem dX10_image_16 : decode cX10_image 16 = .ok (.invokevirtual 352, 3) := by decide +kernel
theorem dX10_image_19 : decode cX10_image 19 = .ok (.aload_n 0, 1) := by decide +kernel
theorem dX10_image_20 : decode cX10_image 20 = .ok (.getfield 49, 3) := by decide +kernel
theorem dX10_image_23 : decode cX10_image 23 = .ok (.getfield 242, 3) := by decide +kernel
theorem dX10_image_26 : decode cX10_image 26 = .ok (.ireturn, 1) := by decide +kernel
theorem dX10_back_0 : decode cX10_back 0 = .ok (.aload_n 0, 1) := by decide +kernel
theorem dX10_back_1 : decode cX10_back 1 = .ok (.getfield 58, 3) := by decide +kernel
theorem dX10_back_4 : decode cX10_back 4 = .ok (.invokevirtual 355, 3) := by decide +kernel
theorem dX10_back_7 : decode cX10_back 7 = .ok (.ifCond .eq 13, 3) := by decide +kernel
theorem dX10_back_10 : decode cX10_back 10 = .ok (.aload_n 0, 1) := by decide +kernel
theorem dX10_back_11 : decode cX10_back 11 = .ok (.getfield 49, 3) := by decide +kernel
theorem dX10_back_14 : decode cX10_back 14 = .ok (.getfield 242, 3) := by decide +kernel
theorem dX10_back_17 : decode cX10_back 17 = .ok (.goto 4, 3) := by decide +kernel
theorem dX10_back_20 : decode cX10_back 20 = .ok (.iconst (-1), 1) := by decide +kernel
theorem dX10_back_21 : decode cX10_back 21 = .ok (.ireturn, 1) := by decide +kernel
theorem dX10_count_0 : decode cX10_count 0 = .ok (.iload_n 1, 1) := by decide +kernel
theorem dX10_count_1 : decode cX10_count 1 = .ok (.tableswitch 165 0 12 #[67, 75, 83, 91, 99, 107, 115, 123, 128, 136, 141, 149, 157], 67) := by decide +kernel
theorem dX10_count_68 : decode cX10_count 68 = .ok (.aload_n 0, 1) := by decide +kernel
theorem dX10_count_69 : decode cX10_count 69 = .ok (.getfield 42, 3) := by decide +kernel
theorem dX10_count_72 : decode cX10_count 72 = .ok (.invokevirtual 131, 3) := by decide +kernel
theorem dX10_count_75 : decode cX10_count 75 = .ok (.ireturn, 1) := by decide +kernel
theorem dX10_count_76 : decode cX10_count 76 = .ok (.aload_n 0, 1) := by decide +kernel
theorem dX10_count_77 : decode cX10_count 77 = .ok (.getfield 42, 3) := by decide +kernel
theorem dX10_count_80 : decode cX10_count 80 = .ok (.invokevirtual 358, 3) := by decide +kernel
theorem dX10_count_83 : decode cX10_count 83 = .ok (.ireturn, 1) := by decide +kernel
theorem dX10_count_84 : decode cX10_count 84 = .ok (.aload_n 0, 1) := by decide +kernel
theorem dX10_count_85 : decode cX10_count 85 = .ok (.getfield 42, 3) := by decide +kernel
theorem dX10_count_88 : decode cX10_count 88 = .ok (.invokevirtual 361, 3) := by decide +kernel
theorem dX10_count_91 : decode cX10_count 91 = .ok (.ireturn, 1) := by decide +kernel
theorem dX10_count_92 : decode cX10_count 92 = .ok (.aload_n 0, 1) := by decide +kernel
theorem dX10_count_93 : decode cX10_count 93 = .ok (.getfield 35, 3) := by decide +kernel
theorem dX10_count_96 : decode cX10_count 96 = .ok (.invokevirtual 134, 3) := by decide +kernel
theorem dX10_count_99 : decode cX10_count 99 = .ok (.ireturn, 1) := by decide +kernel
theorem dX10_count_100 : decode cX10_count 100 = .ok (.aload_n 0, 1) := by decide +kernel
theorem dX10_count_101 : decode cX10_count 101 = .ok (.getfield 10, 3) := by decide +kernel
theorem dX10_count_104 : decode cX10_count 104 = .ok (.invokevirtual 97, 3) := by decide +kernel
theorem dX10_count_107 : decode cX10_count 107 = .ok (.ireturn, 1) := by decide +kernel
theorem dX10_count_108 : decode cX10_count 108 = .ok (.aload_n 0, 1) := by decide +kernel
theorem dX10_count_109 : decode cX10_count 109 = .ok (.getfield 35, 3) := by decide +kernel
theorem dX10_count_112 : decode cX10_count 112 = .ok (.invokevirtual 364, 3) := by decide +kernel
theorem dX10_count_115 : decode cX10_count 115 = .ok (.ireturn, 1) := by decide +kernel
theorem dX10_count_116 : decode cX10_count 116 = .ok (.aload_n 0, 1) := by decide +kernel
theorem dX10_count_117 : decode cX10_count 117 = .ok (.getfield 49, 3) := by decide +kernel
theorem dX10_count_120 : decode cX10_count 120 = .ok (.getfield 242, 3) := by decide +kernel
theorem dX10_count_123 : decode cX10_count 123 = .ok (.ireturn, 1) := by decide +kernel
theorem dX10_count_124 : decode cX10_count 124 = .ok (.aload_n 0, 1) := by decide +kernel
theorem dX10_count_125 : decode cX10_count 125 = .ok (.invokevirtual 207, 3) := by decide +kernel
theorem dX10_count_128 : decode cX10_count 128 = .ok (.ireturn, 1) := by decide +kernel
theorem dX10_count_129 : decode cX10_count 129 = .ok (.aload_n 0, 1) := by decide +kernel
theorem dX10_count_130 : decode cX10_count 130 = .ok (.getfield 49, 3) := by decide +kernel
theorem dX10_count_133 : decode cX10_count 133 = .ok (.invokevirtual 367, 3) := by decide +kernel
theorem dX10_count_136 : decode cX10_count 136 = .ok (.ireturn, 1) := by decide +kernel
theorem dX10_count_137 : decode cX10_count 137 = .ok (.aload_n 0, 1) := by decide +kernel
theorem dX10_count_138 : decode cX10_count 138 = .ok (.getfield 248, 3) := by decide +kernel
theorem dX10_count_141 : decode cX10_count 141 = .ok (.ireturn, 1) := by decide +kernel
theorem dX10_count_142 : decode cX10_count 142 = .ok (.aload_n 0, 1) := by decide +kernel
theorem dX10_count_143 : decode cX10_count 143 = .ok (.getfield 76, 3) := by decide +kernel
theorem dX10_count_146 : decode cX10_count 146 = .ok (.invokevirtual 318, 3) := by decide +kernel
theorem dX10_count_149 : decode cX10_count 149 = .ok (.ireturn, 1) := by decide +kernel
theorem dX10_count_150 : decode cX10_count 150 = .ok (.aload_n 0, 1) := by decide +kernel
theorem dX10_count_151 : decode cX10_count 151 = .ok (.getfield 58, 3) := by decide +kernel
theorem dX10_count_154 : decode cX10_count 154 = .ok (.invokevirtual 264, 3) := by decide +kernel
theorem dX10_count_157 : decode cX10_count 157 = .ok (.ireturn, 1) := by decide +kernel
theorem dX10_count_158 : decode cX10_count 158 = .ok (.aload_n 0, 1) := by decide +kernel
theorem dX10_count_159 : decode cX10_count 159 = .ok (.getfield 58, 3) := by decide +kernel
theorem dX10_count_162 : decode cX10_count 162 = .ok (.invokevirtual 370, 3) := by decide +kernel
theorem dX10_count_165 : decode cX10_count 165 = .ok (.ireturn, 1) := by decide +kernel
theorem dX10_count_166 : decode cX10_count 166 = .ok (.ldc 180, 2) := by decide +kernel
theorem dX10_count_168 : decode cX10_count 168 = .ok (.ireturn, 1) := by decide +kernel
theorem dX10_refuse_0 : decode cX10_refuse 0 = .ok (.iload_n 1, 1) := by decide +kernel
theorem dX10_refuse_1 : decode cX10_refuse 1 = .ok (.ifCond .lt 18, 3) := by decide +kernel
theorem dX10_refuse_4 : decode cX10_refuse 4 = .ok (.iload_n 1, 1) := by decide +kernel
theorem dX10_refuse_5 : decode cX10_refuse 5 = .ok (.iconst 5, 1) := by decide +kernel
theorem dX10_refuse_6 : decode cX10_refuse 6 = .ok (.if_icmp .ge 13, 3) := by decide +kernel
theorem dX10_refuse_9 : decode cX10_refuse 9 = .ok (.aload_n 0, 1) := by decide +kernel
theorem dX10_refuse_10 : decode cX10_refuse 10 = .ok (.getfield 89, 3) := by decide +kernel
theorem dX10_refuse_13 : decode cX10_refuse 13 = .ok (.iload_n 1, 1) := by decide +kernel
theorem dX10_refuse_14 : decode cX10_refuse 14 = .ok (.dup2, 1) := by decide +kernel
theorem dX10_refuse_15 : decode cX10_refuse 15 = .ok (.iaload, 1) := by decide +kernel
theorem dX10_refuse_16 : decode cX10_refuse 16 = .ok (.iconst 1, 1) := by decide +kernel
theorem dX10_refuse_17 : decode cX10_refuse 17 = .ok (.iadd, 1) := by decide +kernel
theorem dX10_refuse_18 : decode cX10_refuse 18 = .ok (.iastore, 1) := by decide +kernel
theorem dX10_refuse_19 : decode cX10_refuse 19 = .ok (.iconst (-1), 1) := by decide +kernel
theorem dX10_refuse_20 : decode cX10_refuse 20 = .ok (.ireturn, 1) := by decide +kernel
theorem dX10_isPlaceAndKind_0 : decode cX10_isPlaceAndKind 0 = .ok (.aload_n 0, 1) := by decide +kernel
theorem dX10_isPlaceAndKind_1 : decode cX10_isPlaceAndKind 1 = .ok (.getfield 42, 3) := by decide +kernel
theorem dX10_isPlaceAndKind_4 : decode cX10_isPlaceAndKind 4 = .ok (.invokevirtual 139, 3) := by decide +kernel
theorem dX10_isPlaceAndKind_7 : decode cX10_isPlaceAndKind 7 = .ok (.ifCond .eq 27, 3) := by decide +kernel
theorem dX10_isPlaceAndKind_10 : decode cX10_isPlaceAndKind 10 = .ok (.iload_n 1, 1) := by decide +kernel
theorem dX10_isPlaceAndKind_11 : decode cX10_isPlaceAndKind 11 = .ok (.ifCond .lt 23, 3) := by decide +kernel
theorem dX10_isPlaceAndKind_14 : decode cX10_isPlaceAndKind 14 = .ok (.iload_n 1, 1) := by decide +kernel
theorem dX10_isPlaceAndKind_15 : decode cX10_isPlaceAndKind 15 = .ok (.bipush 10, 2) := by decide +kernel
theorem dX10_isPlaceAndKind_17 : decode cX10_isPlaceAndKind 17 = .ok (.if_icmp .ge 17, 3) := by decide +kernel
theorem dX10_isPlaceAndKind_20 : decode cX10_isPlaceAndKind 20 = .ok (.iload_n 2, 1) := by decide +kernel
theorem dX10_isPlaceAndKind_21 : decode cX10_isPlaceAndKind 21 = .ok (.ifCond .lt 13, 3) := by decide +kernel
theorem dX10_isPlaceAndKind_24 : decode cX10_isPlaceAndKind 24 = .ok (.iload_n 2, 1) := by decide +kernel
theorem dX10_isPlaceAndKind_25 : decode cX10_isPlaceAndKind 25 = .ok (.bipush 6, 2) := by decide +kernel
theorem dX10_isPlaceAndKind_27 : decode cX10_isPlaceAndKind 27 = .ok (.if_icmp .ge 7, 3) := by decide +kernel
theorem dX10_isPlaceAndKind_30 : decode cX10_isPlaceAndKind 30 = .ok (.iconst 1, 1) := by decide +kernel
theorem dX10_isPlaceAndKind_31 : decode cX10_isPlaceAndKind 31 = .ok (.goto 4, 3) := by decide +kernel
theorem dX10_isPlaceAndKind_34 : decode cX10_isPlaceAndKind 34 = .ok (.iconst 0, 1) := by decide +kernel
theorem dX10_isPlaceAndKind_35 : decode cX10_isPlaceAndKind 35 = .ok (.ireturn, 1) := by decide +kernel
theorem dX10_contentNow_0 : decode cX10_contentNow 0 = .ok (.aload_n 0, 1) := by decide +kernel
theorem dX10_contentNow_1 : decode cX10_contentNow 1 = .ok (.getfield 67, 3) := by decide +kernel
theorem dX10_contentNow_4 : decode cX10_contentNow 4 = .ok (.invokevirtual 296, 3) := by decide +kernel
theorem dX10_contentNow_7 : decode cX10_contentNow 7 = .ok (.aload_n 0, 1) := by decide +kernel
theorem dX10_contentNow_8 : decode cX10_contentNow 8 = .ok (.getfield 67, 3) := by decide +kernel
theorem dX10_contentNow_11 : decode cX10_contentNow 11 = .ok (.invokevirtual 373, 3) := by decide +kernel
theorem dX10_contentNow_14 : decode cX10_contentNow 14 = .ok (.ireturn, 1) := by decide +kernel
theorem dX10_passDay_0 : decode cX10_passDay 0 = .ok (.aload_n 0, 1) := by decide +kernel
theorem dX10_passDay_1 : decode cX10_passDay 1 = .ok (.invokevirtual 207, 3) := by decide +kernel
theorem dX10_passDay_4 : decode cX10_passDay 4 = .ok (.istore_n 1, 1) := by decide +kernel
theorem dX10_passDay_5 : decode cX10_passDay 5 = .ok (.aload_n 0, 1) := by decide +kernel
theorem dX10_passDay_6 : decode cX10_passDay 6 = .ok (.getfield 49, 3) := by decide +kernel
theorem dX10_passDay_9 : decode cX10_passDay 9 = .ok (.sipush 999, 3) := by decide +kernel
theorem dX10_passDay_12 : decode cX10_passDay 12 = .ok (.aload_n 0, 1) := by decide +kernel
theorem dX10_passDay_13 : decode cX10_passDay 13 = .ok (.getfield 49, 3) := by decide +kernel
theorem dX10_passDay_16 : decode cX10_passDay 16 = .ok (.getfield 148, 3) := by decide +kernel
theorem dX10_passDay_19 : decode cX10_passDay 19 = .ok (.aload_n 0, 1) := by decide +kernel
theorem dX10_passDay_20 : decode cX10_passDay 20 = .ok (.getfield 42, 3) := by decide +kernel
theorem dX10_passDay_23 : decode cX10_passDay 23 = .ok (.iload_n 1, 1) := by decide +kernel
theorem dX10_passDay_24 : decode cX10_passDay 24 = .ok (.invokevirtual 337, 3) := by decide +kernel
theorem dX10_passDay_27 : decode cX10_passDay 27 = .ok (.iadd, 1) := by decide +kernel
theorem dX10_passDay_28 : decode cX10_passDay 28 = .ok (.invokestatic 376, 3) := by decide +kernel
theorem dX10_passDay_31 : decode cX10_passDay 31 = .ok (.putfield 148, 3) := by decide +kernel
theorem dX10_passDay_34 : decode cX10_passDay 34 = .ok (.aload_n 0, 1) := by decide +kernel
theorem dX10_passDay_35 : decode cX10_passDay 35 = .ok (.getfield 58, 3) := by decide +kernel
theorem dX10_passDay_38 : decode cX10_passDay 38 = .ok (.iload_n 1, 1) := by decide +kernel
theorem dX10_passDay_39 : decode cX10_passDay 39 = .ok (.invokevirtual 381, 3) := by decide +kernel
theorem dX10_passDay_42 : decode cX10_passDay 42 = .ok (.aload_n 0, 1) := by decide +kernel
theorem dX10_passDay_43 : decode cX10_passDay 43 = .ok (.getfield 49, 3) := by decide +kernel
theorem dX10_passDay_46 : decode cX10_passDay 46 = .ok (.dup, 1) := by decide +kernel
theorem dX10_passDay_47 : decode cX10_passDay 47 = .ok (.getfield 242, 3) := by decide +kernel
theorem dX10_passDay_50 : decode cX10_passDay 50 = .ok (.iconst 1, 1) := by decide +kernel
theorem dX10_passDay_51 : decode cX10_passDay 51 = .ok (.iadd, 1) := by decide +kernel
theorem dX10_passDay_52 : decode cX10_passDay 52 = .ok (.putfield 242, 3) := by decide +kernel
theorem dX10_passDay_55 : decode cX10_passDay 55 = .ok (.return_, 1) := by decide +kernel
theorem dX10_draw_0 : decode cX10_draw 0 = .ok (.aload_n 0, 1) := by decide +kernel
theorem dX10_draw_1 : decode cX10_draw 1 = .ok (.aload_n 0, 1) := by decide +kernel
theorem dX10_draw_2 : decode cX10_draw 2 = .ok (.getfield 251, 3) := by decide +kernel
theorem dX10_draw_5 : decode cX10_draw 5 = .ok (.ldc2_w 384, 3) := by decide +kernel
theorem dX10_draw_8 : decode cX10_draw 8 = .ok (.lmul, 1) := by decide +kernel
theorem dX10_draw_9 : decode cX10_draw 9 = .ok (.ldc2_w 386, 3) := by decide +kernel
theorem dX10_draw_12 : decode cX10_draw 12 = .ok (.ladd, 1) := by decide +kernel
theorem dX10_draw_13 : decode cX10_draw 13 = .ok (.putfield 251, 3) := by decide +kernel
theorem dX10_draw_16 : decode cX10_draw 16 = .ok (.iload_n 1, 1) := by decide +kernel
theorem dX10_draw_17 : decode cX10_draw 17 = .ok (.ifCond .le 17, 3) := by decide +kernel
theorem dX10_draw_20 : decode cX10_draw 20 = .ok (.aload_n 0, 1) := by decide +kernel
theorem dX10_draw_21 : decode cX10_draw 21 = .ok (.getfield 251, 3) := by decide +kernel
theorem dX10_draw_24 : decode cX10_draw 24 = .ok (.bipush 33, 2) := by decide +kernel
theorem dX10_draw_26 : decode cX10_draw 26 = .ok (.lushr, 1) := by decide +kernel
theorem dX10_draw_27 : decode cX10_draw 27 = .ok (.iload_n 1, 1) := by decide +kernel
theorem dX10_draw_28 : decode cX10_draw 28 = .ok (.i2l, 1) := by decide +kernel
theorem dX10_draw_29 : decode cX10_draw 29 = .ok (.lrem, 1) := by decide +kernel
theorem dX10_draw_30 : decode cX10_draw 30 = .ok (.l2i, 1) := by decide +kernel
theorem dX10_draw_31 : decode cX10_draw 31 = .ok (.goto 4, 3) := by decide +kernel
theorem dX10_draw_34 : decode cX10_draw 34 = .ok (.iconst 0, 1) := by decide +kernel
theorem dX10_draw_35 : decode cX10_draw 35 = .ok (.ireturn, 1) := by decide +kernel
theorem dX10_playByDraws_0 : decode cX10_playByDraws 0 = .ok (.aload_n 0, 1) := by decide +kernel
theorem dX10_playByDraws_1 : decode cX10_playByDraws 1 = .ok (.aload_n 0, 1) := by decide +kernel
theorem dX10_playByDraws_2 : decode cX10_playByDraws 2 = .ok (.getfield 42, 3) := by decide +kernel
theorem dX10_playByDraws_5 : decode cX10_playByDraws 5 = .ok (.invokevirtual 131, 3) := by decide +kernel
theorem dX10_playByDraws_8 : decode cX10_playByDraws 8 = .ok (.invokevirtual 388, 3) := by decide +kernel
theorem dX10_playByDraws_11 : decode cX10_playByDraws 11 = .ok (.istore_n 1, 1) := by decide +kernel
theorem dX10_playByDraws_12 : decode cX10_playByDraws 12 = .ok (.aload_n 0, 1) := by decide +kernel
theorem dX10_playByDraws_13 : decode cX10_playByDraws 13 = .ok (.aload_n 0, 1) := by decide +kernel
theorem dX10_playByDraws_14 : decode cX10_playByDraws 14 = .ok (.getfield 42, 3) := by decide +kernel
theorem dX10_playByDraws_17 : decode cX10_playByDraws 17 = .ok (.invokevirtual 131, 3) := by decide +kernel
theorem dX10_playByDraws_20 : decode cX10_playByDraws 20 = .ok (.invokevirtual 388, 3) := by decide +kernel
theorem dX10_playByDraws_23 : decode cX10_playByDraws 23 = .ok (.istore_n 2, 1) := by decide +kernel
theorem dX10_playByDraws_24 : decode cX10_playByDraws 24 = .ok (.aload_n 0, 1) := by decide +kernel
theorem dX10_playByDraws_25 : decode cX10_playByDraws 25 = .ok (.bipush 9, 2) := by decide +kernel
theorem dX10_playByDraws_27 : decode cX10_playByDraws 27 = .ok (.invokevirtual 388, 3) := by decide +kernel
theorem dX10_playByDraws_30 : decode cX10_playByDraws 30 = .ok (.iconst 1, 1) := by decide +kernel
theorem dX10_playByDraws_31 : decode cX10_playByDraws 31 = .ok (.iadd, 1) := by decide +kernel
theorem dX10_playByDraws_32 : decode cX10_playByDraws 32 = .ok (.istore_n 3, 1) := by decide +kernel
theorem dX10_playByDraws_33 : decode cX10_playByDraws 33 = .ok (.aload_n 0, 1) := by decide +kernel
theorem dX10_playByDraws_34 : decode cX10_playByDraws 34 = .ok (.bipush 9, 2) := by decide +kernel
theorem dX10_playByDraws_36 : decode cX10_playByDraws 36 = .ok (.invokevirtual 388, 3) := by decide +kernel
theorem dX10_playByDraws_39 : decode cX10_playByDraws 39 = .ok (.iconst 1, 1) := by decide +kernel
theorem dX10_playByDraws_40 : decode cX10_playByDraws 40 = .ok (.iadd, 1) := by decide +kernel
theorem dX10_playByDraws_41 : decode cX10_playByDraws 41 = .ok (.istore 4, 2) := by decide +kernel
theorem dX10_playByDraws_43 : decode cX10_playByDraws 43 = .ok (.aload_n 0, 1) := by decide +kernel
theorem dX10_playByDraws_44 : decode cX10_playByDraws 44 = .ok (.getfield 85, 3) := by decide +kernel
theorem dX10_playByDraws_47 : decode cX10_playByDraws 47 = .ok (.iload_n 1, 1) := by decide +kernel
theorem dX10_playByDraws_48 : decode cX10_playByDraws 48 = .ok (.iload_n 3, 1) := by decide +kernel
theorem dX10_playByDraws_49 : decode cX10_playByDraws 49 = .ok (.iload_n 2, 1) := by decide +kernel
theorem dX10_playByDraws_50 : decode cX10_playByDraws 50 = .ok (.iload 4, 2) := by decide +kernel
theorem dX10_playByDraws_52 : decode cX10_playByDraws 52 = .ok (.invokevirtual 213, 3) := by decide +kernel
theorem dX10_playByDraws_55 : decode cX10_playByDraws 55 = .ok (.iconst (-1), 1) := by decide +kernel
theorem dX10_playByDraws_56 : decode cX10_playByDraws 56 = .ok (.if_icmp .ne 16, 3) := by decide +kernel
theorem dX10_playByDraws_59 : decode cX10_playByDraws 59 = .ok (.aload_n 0, 1) := by decide +kernel
theorem dX10_playByDraws_60 : decode cX10_playByDraws 60 = .ok (.getfield 85, 3) := by decide +kernel
theorem dX10_playByDraws_63 : decode cX10_playByDraws 63 = .ok (.iload_n 1, 1) := by decide +kernel
theorem dX10_playByDraws_64 : decode cX10_playByDraws 64 = .ok (.iload_n 3, 1) := by decide +kernel
theorem dX10_playByDraws_65 : decode cX10_playByDraws 65 = .ok (.iload_n 2, 1) := by decide +kernel
theorem dX10_playByDraws_66 : decode cX10_playByDraws 66 = .ok (.iload 4, 2) := by decide +kernel
theorem dX10_playByDraws_68 : decode cX10_playByDraws 68 = .ok (.invokevirtual 223, 3) := by decide +kernel
theorem dX10_playByDraws_71 : decode cX10_playByDraws 71 = .ok (.pop, 1) := by decide +kernel
theorem dX10_playByDraws_72 : decode cX10_playByDraws 72 = .ok (.return_, 1) := by decide +kernel
theorem dX10_spillByDraws_0 : decode cX10_spillByDraws 0 = .ok (.aload_n 0, 1) := by decide +kernel
theorem dX10_spillByDraws_1 : decode cX10_spillByDraws 1 = .ok (.bipush 10, 2) := by decide +kernel
theorem dX10_spillByDraws_3 : decode cX10_spillByDraws 3 = .ok (.invokevirtual 388, 3) := by decide +kernel
theorem dX10_spillByDraws_6 : decode cX10_spillByDraws 6 = .ok (.aload_n 0, 1) := by decide +kernel
theorem dX10_spillByDraws_7 : decode cX10_spillByDraws 7 = .ok (.getfield 248, 3) := by decide +kernel
theorem dX10_spillByDraws_10 : decode cX10_spillByDraws 10 = .ok (.if_icmp .lt 4, 3) := by decide +kernel
theorem dX10_spillByDraws_13 : decode cX10_spillByDraws 13 = .ok (.return_, 1) := by decide +kernel
theorem dX10_spillByDraws_14 : decode cX10_spillByDraws 14 = .ok (.aload_n 0, 1) := by decide +kernel
theorem dX10_spillByDraws_15 : decode cX10_spillByDraws 15 = .ok (.aload_n 0, 1) := by decide +kernel
theorem dX10_spillByDraws_16 : decode cX10_spillByDraws 16 = .ok (.getfield 42, 3) := by decide +kernel
theorem dX10_spillByDraws_19 : decode cX10_spillByDraws 19 = .ok (.invokevirtual 131, 3) := by decide +kernel
theorem dX10_spillByDraws_22 : decode cX10_spillByDraws 22 = .ok (.invokevirtual 388, 3) := by decide +kernel
theorem dX10_spillByDraws_25 : decode cX10_spillByDraws 25 = .ok (.istore_n 1, 1) := by decide +kernel
theorem dX10_spillByDraws_26 : decode cX10_spillByDraws 26 = .ok (.aload_n 0, 1) := by decide +kernel
theorem dX10_spillByDraws_27 : decode cX10_spillByDraws 27 = .ok (.getfield 49, 3) := by decide +kernel
theorem dX10_spillByDraws_30 : decode cX10_spillByDraws 30 = .ok (.iload_n 1, 1) := by decide +kernel
theorem dX10_spillByDraws_31 : decode cX10_spillByDraws 31 = .ok (.invokevirtual 233, 3) := by decide +kernel
theorem dX10_spillByDraws_34 : decode cX10_spillByDraws 34 = .ok (.ifCond .ne 18, 3) := by decide +kernel
theorem dX10_spillByDraws_37 : decode cX10_spillByDraws 37 = .ok (.aload_n 0, 1) := by decide +kernel
theorem dX10_spillByDraws_38 : decode cX10_spillByDraws 38 = .ok (.getfield 49, 3) := by decide +kernel
theorem dX10_spillByDraws_41 : decode cX10_spillByDraws 41 = .ok (.dup, 1) := by decide +kernel
theorem dX10_spillByDraws_42 : decode cX10_spillByDraws 42 = .ok (.getfield 236, 3) := by decide +kernel
theorem dX10_spillByDraws_45 : decode cX10_spillByDraws 45 = .ok (.iconst 1, 1) := by decide +kernel
theorem dX10_spillByDraws_46 : decode cX10_spillByDraws 46 = .ok (.iload_n 1, 1) := by decide +kernel
theorem dX10_spillByDraws_47 : decode cX10_spillByDraws 47 = .ok (.ishl, 1) := by decide +kernel
theorem dX10_spillByDraws_48 : decode cX10_spillByDraws 48 = .ok (.ior, 1) := by decide +kernel
theorem dX10_spillByDraws_49 : decode cX10_spillByDraws 49 = .ok (.putfield 236, 3) := by decide +kernel
theorem dX10_spillByDraws_52 : decode cX10_spillByDraws 52 = .ok (.return_, 1) := by decide +kernel
theorem dX10_likingFor_0 : decode cX10_likingFor 0 = .ok (.iconst 0, 1) := by decide +kernel
theorem dX10_likingFor_1 : decode cX10_likingFor 1 = .ok (.istore_n 3, 1) := by decide +kernel
theorem dX10_likingFor_2 : decode cX10_likingFor 2 = .ok (.iconst 0, 1) := by decide +kernel
theorem dX10_likingFor_3 : decode cX10_likingFor 3 = .ok (.istore 4, 2) := by decide +kernel
theorem dX10_likingFor_5 : decode cX10_likingFor 5 = .ok (.iload 4, 2) := by decide +kernel
theorem dX10_likingFor_7 : decode cX10_likingFor 7 = .ok (.aload_n 0, 1) := by decide +kernel
theorem dX10_likingFor_8 : decode cX10_likingFor 8 = .ok (.getfield 42, 3) := by decide +kernel
theorem dX10_likingFor_11 : decode cX10_likingFor 11 = .ok (.invokevirtual 361, 3) := by decide +kernel
theorem dX10_likingFor_14 : decode cX10_likingFor 14 = .ok (.if_icmp .ge 57, 3) := by decide +kernel
theorem dX10_likingFor_17 : decode cX10_likingFor 17 = .ok (.iload_n 3, 1) := by decide +kernel
theorem dX10_likingFor_18 : decode cX10_likingFor 18 = .ok (.aload_n 0, 1) := by decide +kernel
theorem dX10_likingFor_19 : decode cX10_likingFor 19 = .ok (.getfield 42, 3) := by decide +kernel
theorem dX10_likingFor_22 : decode cX10_likingFor 22 = .ok (.iload 4, 2) := by decide +kernel
theorem dX10_likingFor_24 : decode cX10_likingFor 24 = .ok (.invokevirtual 198, 3) := by decide +kernel
theorem dX10_likingFor_27 : decode cX10_likingFor 27 = .ok (.aload_n 0, 1) := by decide +kernel
theorem dX10_likingFor_28 : decode cX10_likingFor 28 = .ok (.getfield 42, 3) := by decide +kernel
theorem dX10_likingFor_31 : decode cX10_likingFor 31 = .ok (.iload_n 1, 1) := by decide +kernel
theorem dX10_likingFor_32 : decode cX10_likingFor 32 = .ok (.invokevirtual 166, 3) := by decide +kernel
theorem dX10_likingFor_35 : decode cX10_likingFor 35 = .ok (.if_icmp .ne 27, 3) := by decide +kernel
theorem dX10_likingFor_38 : decode cX10_likingFor 38 = .ok (.aload_n 0, 1) := by decide +kernel
theorem dX10_likingFor_39 : decode cX10_likingFor 39 = .ok (.getfield 42, 3) := by decide +kernel
theorem dX10_likingFor_42 : decode cX10_likingFor 42 = .ok (.iload 4, 2) := by decide +kernel
theorem dX10_likingFor_44 : decode cX10_likingFor 44 = .ok (.invokevirtual 201, 3) := by decide +kernel
theorem dX10_likingFor_47 : decode cX10_likingFor 47 = .ok (.aload_n 0, 1) := by decide +kernel
theorem dX10_likingFor_48 : decode cX10_likingFor 48 = .ok (.getfield 42, 3) := by decide +kernel
theorem dX10_likingFor_51 : decode cX10_likingFor 51 = .ok (.iload_n 2, 1) := by decide +kernel
theorem dX10_likingFor_52 : decode cX10_likingFor 52 = .ok (.invokevirtual 184, 3) := by decide +kernel
theorem dX10_likingFor_55 : decode cX10_likingFor 55 = .ok (.if_icmp .ne 7, 3) := by decide +kernel
theorem dX10_likingFor_58 : decode cX10_likingFor 58 = .ok (.iconst 1, 1) := by decide +kernel
theorem dX10_likingFor_59 : decode cX10_likingFor 59 = .ok (.goto 4, 3) := by decide +kernel
theorem dX10_likingFor_62 : decode cX10_likingFor 62 = .ok (.iconst 0, 1) := by decide +kernel
theorem dX10_likingFor_63 : decode cX10_likingFor 63 = .ok (.ior, 1) := by decide +kernel
theorem dX10_likingFor_64 : decode cX10_likingFor 64 = .ok (.istore_n 3, 1) := by decide +kernel
theorem dX10_likingFor_65 : decode cX10_likingFor 65 = .ok (.iinc 4 1, 3) := by decide +kernel
theorem dX10_likingFor_68 : decode cX10_likingFor 68 = .ok (.goto (-63), 3) := by decide +kernel
theorem dX10_likingFor_71 : decode cX10_likingFor 71 = .ok (.aload_n 0, 1) := by decide +kernel
theorem dX10_likingFor_72 : decode cX10_likingFor 72 = .ok (.getfield 49, 3) := by decide +kernel
theorem dX10_likingFor_75 : decode cX10_likingFor 75 = .ok (.aload_n 0, 1) := by decide +kernel
theorem dX10_likingFor_76 : decode cX10_likingFor 76 = .ok (.getfield 42, 3) := by decide +kernel
theorem dX10_likingFor_79 : decode cX10_likingFor 79 = .ok (.iload_n 2, 1) := by decide +kernel
theorem dX10_likingFor_80 : decode cX10_likingFor 80 = .ok (.invokevirtual 391, 3) := by decide +kernel
theorem dX10_likingFor_83 : decode cX10_likingFor 83 = .ok (.iload_n 3, 1) := by decide +kernel
theorem dX10_likingFor_84 : decode cX10_likingFor 84 = .ok (.ifCond .eq 7, 3) := by decide +kernel
theorem dX10_likingFor_87 : decode cX10_likingFor 87 = .ok (.iconst 5, 1) := by decide +kernel
