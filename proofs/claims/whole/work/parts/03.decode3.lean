theorem dX11_boy_27 : decode cX11_boy 27 = .ok (.getfield 93, 3) := by decide +kernel
theorem dX11_boy_30 : decode cX11_boy 30 = .ok (.iconst 1, 1) := by decide +kernel
theorem dX11_boy_31 : decode cX11_boy 31 = .ok (.if_icmp .ne 5, 3) := by decide +kernel
theorem dX11_boy_34 : decode cX11_boy 34 = .ok (.iconst 0, 1) := by decide +kernel
theorem dX11_boy_35 : decode cX11_boy 35 = .ok (.ireturn, 1) := by decide +kernel
theorem dX11_boy_36 : decode cX11_boy 36 = .ok (.iload_n 2, 1) := by decide +kernel
theorem dX11_boy_37 : decode cX11_boy 37 = .ok (.iconst 2, 1) := by decide +kernel
theorem dX11_boy_38 : decode cX11_boy 38 = .ok (.if_icmp .ge 16, 3) := by decide +kernel
theorem dX11_boy_41 : decode cX11_boy 41 = .ok (.aload_n 0, 1) := by decide +kernel
theorem dX11_boy_42 : decode cX11_boy 42 = .ok (.getfield 55, 3) := by decide +kernel
theorem dX11_boy_45 : decode cX11_boy 45 = .ok (.iconst 2, 1) := by decide +kernel
theorem dX11_boy_46 : decode cX11_boy 46 = .ok (.iload_n 1, 1) := by decide +kernel
theorem dX11_boy_47 : decode cX11_boy 47 = .ok (.imul, 1) := by decide +kernel
theorem dX11_boy_48 : decode cX11_boy 48 = .ok (.iload_n 2, 1) := by decide +kernel
theorem dX11_boy_49 : decode cX11_boy 49 = .ok (.iadd, 1) := by decide +kernel
theorem dX11_boy_50 : decode cX11_boy 50 = .ok (.iaload, 1) := by decide +kernel
theorem dX11_boy_51 : decode cX11_boy 51 = .ok (.goto 11, 3) := by decide +kernel
theorem dX11_boy_54 : decode cX11_boy 54 = .ok (.aload_n 0, 1) := by decide +kernel
theorem dX11_boy_55 : decode cX11_boy 55 = .ok (.iload_n 1, 1) := by decide +kernel
theorem dX11_boy_56 : decode cX11_boy 56 = .ok (.invokevirtual 286, 3) := by decide +kernel
theorem dX11_boy_59 : decode cX11_boy 59 = .ok (.invokestatic 289, 3) := by decide +kernel
theorem dX11_boy_62 : decode cX11_boy 62 = .ok (.ireturn, 1) := by decide +kernel
theorem dX11_marble_0 : decode cX11_marble 0 = .ok (.aload_n 0, 1) := by decide +kernel
theorem dX11_marble_1 : decode cX11_marble 1 = .ok (.iload_n 1, 1) := by decide +kernel
theorem dX11_marble_2 : decode cX11_marble 2 = .ok (.invokevirtual 328, 3) := by decide +kernel
theorem dX11_marble_5 : decode cX11_marble 5 = .ok (.ifCond .eq 12, 3) := by decide +kernel
theorem dX11_marble_8 : decode cX11_marble 8 = .ok (.iload_n 2, 1) := by decide +kernel
theorem dX11_marble_9 : decode cX11_marble 9 = .ok (.iconst 0, 1) := by decide +kernel
theorem dX11_marble_10 : decode cX11_marble 10 = .ok (.iconst 4, 1) := by decide +kernel
theorem dX11_marble_11 : decode cX11_marble 11 = .ok (.invokestatic 208, 3) := by decide +kernel
theorem dX11_marble_14 : decode cX11_marble 14 = .ok (.ifCond .ne 7, 3) := by decide +kernel
theorem dX11_marble_17 : decode cX11_marble 17 = .ok (.ldc_w 331, 3) := by decide +kernel
theorem dX11_marble_20 : decode cX11_marble 20 = .ok (.ireturn, 1) := by decide +kernel
theorem dX11_marble_21 : decode cX11_marble 21 = .ok (.iload_n 2, 1) := by decide +kernel
theorem dX11_marble_22 : decode cX11_marble 22 = .ok (.tableswitch 67 0 4 #[34, 67, 67, 43, 55], 34) := by decide +kernel
theorem dX11_marble_56 : decode cX11_marble 56 = .ok (.aload_n 0, 1) := by decide +kernel
theorem dX11_marble_57 : decode cX11_marble 57 = .ok (.getfield 64, 3) := by decide +kernel
theorem dX11_marble_60 : decode cX11_marble 60 = .ok (.iconst 0, 1) := by decide +kernel
theorem dX11_marble_61 : decode cX11_marble 61 = .ok (.iload_n 1, 1) := by decide +kernel
theorem dX11_marble_62 : decode cX11_marble 62 = .ok (.iadd, 1) := by decide +kernel
theorem dX11_marble_63 : decode cX11_marble 63 = .ok (.iaload, 1) := by decide +kernel
theorem dX11_marble_64 : decode cX11_marble 64 = .ok (.ireturn, 1) := by decide +kernel
theorem dX11_marble_65 : decode cX11_marble 65 = .ok (.aload_n 0, 1) := by decide +kernel
theorem dX11_marble_66 : decode cX11_marble 66 = .ok (.getfield 64, 3) := by decide +kernel
theorem dX11_marble_69 : decode cX11_marble 69 = .ok (.bipush 6, 2) := by decide +kernel
theorem dX11_marble_71 : decode cX11_marble 71 = .ok (.iaload, 1) := by decide +kernel
theorem dX11_marble_72 : decode cX11_marble 72 = .ok (.iload_n 1, 1) := by decide +kernel
theorem dX11_marble_73 : decode cX11_marble 73 = .ok (.ishr, 1) := by decide +kernel
theorem dX11_marble_74 : decode cX11_marble 74 = .ok (.iconst 1, 1) := by decide +kernel
theorem dX11_marble_75 : decode cX11_marble 75 = .ok (.iand, 1) := by decide +kernel
theorem dX11_marble_76 : decode cX11_marble 76 = .ok (.ireturn, 1) := by decide +kernel
theorem dX11_marble_77 : decode cX11_marble 77 = .ok (.aload_n 0, 1) := by decide +kernel
theorem dX11_marble_78 : decode cX11_marble 78 = .ok (.getfield 64, 3) := by decide +kernel
theorem dX11_marble_81 : decode cX11_marble 81 = .ok (.bipush 7, 2) := by decide +kernel
theorem dX11_marble_83 : decode cX11_marble 83 = .ok (.iaload, 1) := by decide +kernel
theorem dX11_marble_84 : decode cX11_marble 84 = .ok (.iload_n 1, 1) := by decide +kernel
theorem dX11_marble_85 : decode cX11_marble 85 = .ok (.ishr, 1) := by decide +kernel
theorem dX11_marble_86 : decode cX11_marble 86 = .ok (.iconst 1, 1) := by decide +kernel
theorem dX11_marble_87 : decode cX11_marble 87 = .ok (.iand, 1) := by decide +kernel
theorem dX11_marble_88 : decode cX11_marble 88 = .ok (.ireturn, 1) := by decide +kernel
theorem dX11_marble_89 : decode cX11_marble 89 = .ok (.aload_n 0, 1) := by decide +kernel
theorem dX11_marble_90 : decode cX11_marble 90 = .ok (.iload_n 1, 1) := by decide +kernel
theorem dX11_marble_91 : decode cX11_marble 91 = .ok (.iload_n 2, 1) := by decide +kernel
theorem dX11_marble_92 : decode cX11_marble 92 = .ok (.invokevirtual 267, 3) := by decide +kernel
theorem dX11_marble_95 : decode cX11_marble 95 = .ok (.ireturn, 1) := by decide +kernel
theorem dX11_farm_0 : decode cX11_farm 0 = .ok (.iload_n 1, 1) := by decide +kernel
theorem dX11_farm_1 : decode cX11_farm 1 = .ok (.iconst 0, 1) := by decide +kernel
theorem dX11_farm_2 : decode cX11_farm 2 = .ok (.aload_n 0, 1) := by decide +kernel
theorem dX11_farm_3 : decode cX11_farm 3 = .ok (.getfield 264, 3) := by decide +kernel
theorem dX11_farm_6 : decode cX11_farm 6 = .ok (.iconst 1, 1) := by decide +kernel
theorem dX11_farm_7 : decode cX11_farm 7 = .ok (.isub, 1) := by decide +kernel
theorem dX11_farm_8 : decode cX11_farm 8 = .ok (.invokestatic 208, 3) := by decide +kernel
theorem dX11_farm_11 : decode cX11_farm 11 = .ok (.ifCond .eq 12, 3) := by decide +kernel
theorem dX11_farm_14 : decode cX11_farm 14 = .ok (.iload_n 2, 1) := by decide +kernel
theorem dX11_farm_15 : decode cX11_farm 15 = .ok (.iconst 0, 1) := by decide +kernel
theorem dX11_farm_16 : decode cX11_farm 16 = .ok (.iconst 3, 1) := by decide +kernel
theorem dX11_farm_17 : decode cX11_farm 17 = .ok (.invokestatic 208, 3) := by decide +kernel
theorem dX11_farm_20 : decode cX11_farm 20 = .ok (.ifCond .ne 7, 3) := by decide +kernel
theorem dX11_farm_23 : decode cX11_farm 23 = .ok (.iconst (-1), 1) := by decide +kernel
theorem dX11_farm_24 : decode cX11_farm 24 = .ok (.goto 30, 3) := by decide +kernel
theorem dX11_farm_27 : decode cX11_farm 27 = .ok (.iload_n 2, 1) := by decide +kernel
theorem dX11_farm_28 : decode cX11_farm 28 = .ok (.iconst 3, 1) := by decide +kernel
theorem dX11_farm_29 : decode cX11_farm 29 = .ok (.if_icmp .ge 12, 3) := by decide +kernel
theorem dX11_farm_32 : decode cX11_farm 32 = .ok (.aload_n 0, 1) := by decide +kernel
theorem dX11_farm_33 : decode cX11_farm 33 = .ok (.iload_n 1, 1) := by decide +kernel
theorem dX11_farm_34 : decode cX11_farm 34 = .ok (.iload_n 2, 1) := by decide +kernel
theorem dX11_farm_35 : decode cX11_farm 35 = .ok (.invokevirtual 316, 3) := by decide +kernel
theorem dX11_farm_38 : decode cX11_farm 38 = .ok (.goto 16, 3) := by decide +kernel
theorem dX11_farm_41 : decode cX11_farm 41 = .ok (.aload_n 0, 1) := by decide +kernel
theorem dX11_farm_42 : decode cX11_farm 42 = .ok (.iload_n 1, 1) := by decide +kernel
theorem dX11_farm_43 : decode cX11_farm 43 = .ok (.invokevirtual 322, 3) := by decide +kernel
theorem dX11_farm_46 : decode cX11_farm 46 = .ok (.ifCond .eq 7, 3) := by decide +kernel
theorem dX11_farm_49 : decode cX11_farm 49 = .ok (.iconst 1, 1) := by decide +kernel
theorem dX11_farm_50 : decode cX11_farm 50 = .ok (.goto 4, 3) := by decide +kernel
theorem dX11_farm_53 : decode cX11_farm 53 = .ok (.iconst 0, 1) := by decide +kernel
theorem dX11_farm_54 : decode cX11_farm 54 = .ok (.ireturn, 1) := by decide +kernel
theorem dX11_law_0 : decode cX11_law 0 = .ok (.iload_n 1, 1) := by decide +kernel
theorem dX11_law_1 : decode cX11_law 1 = .ok (.iconst (-1), 1) := by decide +kernel
theorem dX11_law_2 : decode cX11_law 2 = .ok (.aload_n 0, 1) := by decide +kernel
theorem dX11_law_3 : decode cX11_law 3 = .ok (.getfield 283, 3) := by decide +kernel
theorem dX11_law_6 : decode cX11_law 6 = .ok (.iconst 1, 1) := by decide +kernel
theorem dX11_law_7 : decode cX11_law 7 = .ok (.isub, 1) := by decide +kernel
theorem dX11_law_8 : decode cX11_law 8 = .ok (.invokestatic 208, 3) := by decide +kernel
theorem dX11_law_11 : decode cX11_law 11 = .ok (.ifCond .ne 5, 3) := by decide +kernel
theorem dX11_law_14 : decode cX11_law 14 = .ok (.iconst 0, 1) := by decide +kernel
theorem dX11_law_15 : decode cX11_law 15 = .ok (.ireturn, 1) := by decide +kernel
theorem dX11_law_16 : decode cX11_law 16 = .ok (.aload_n 0, 1) := by decide +kernel
theorem dX11_law_17 : decode cX11_law 17 = .ok (.iload_n 1, 1) := by decide +kernel
theorem dX11_law_18 : decode cX11_law 18 = .ok (.putfield 70, 3) := by decide +kernel
theorem dX11_law_21 : decode cX11_law 21 = .ok (.iconst 1, 1) := by decide +kernel
theorem dX11_law_22 : decode cX11_law 22 = .ok (.ireturn, 1) := by decide +kernel
theorem dX11_keep_0 : decode cX11_keep 0 = .ok (.aload_n 0, 1) := by decide +kernel
theorem dX11_keep_1 : decode cX11_keep 1 = .ok (.getfield 273, 3) := by decide +kernel
theorem dX11_keep_4 : decode cX11_keep 4 = .ok (.bipush 40, 2) := by decide +kernel
theorem dX11_keep_6 : decode cX11_keep 6 = .ok (.if_icmp .ne 46, 3) := by decide +kernel
theorem dX11_keep_9 : decode cX11_keep 9 = .ok (.sipush 131, 3) := by decide +kernel
theorem dX11_keep_12 : decode cX11_keep 12 = .ok (.istore_n 1, 1) := by decide +kernel
theorem dX11_keep_13 : decode cX11_keep 13 = .ok (.iload_n 1, 1) := by decide +kernel
theorem dX11_keep_14 : decode cX11_keep 14 = .ok (.sipush 5240, 3) := by decide +kernel
theorem dX11_keep_17 : decode cX11_keep 17 = .ok (.if_icmp .ge 25, 3) := by decide +kernel
theorem dX11_keep_20 : decode cX11_keep 20 = .ok (.aload_n 0, 1) := by decide +kernel
theorem dX11_keep_21 : decode cX11_keep 21 = .ok (.getfield 74, 3) := by decide +kernel
theorem dX11_keep_24 : decode cX11_keep 24 = .ok (.iload_n 1, 1) := by decide +kernel
theorem dX11_keep_25 : decode cX11_keep 25 = .ok (.sipush 131, 3) := by decide +kernel
theorem dX11_keep_28 : decode cX11_keep 28 = .ok (.isub, 1) := by decide +kernel
theorem dX11_keep_29 : decode cX11_keep 29 = .ok (.aload_n 0, 1) := by decide +kernel
theorem dX11_keep_30 : decode cX11_keep 30 = .ok (.getfield 74, 3) := by decide +kernel
theorem dX11_keep_33 : decode cX11_keep 33 = .ok (.iload_n 1, 1) := by decide +kernel
theorem dX11_keep_34 : decode cX11_keep 34 = .ok (.iaload, 1) := by decide +kernel
theorem dX11_keep_35 : decode cX11_keep 35 = .ok (.iastore, 1) := by decide +kernel
theorem dX11_keep_36 : decode cX11_keep 36 = .ok (.iinc 1 1, 3) := by decide +kernel
theorem dX11_keep_39 : decode cX11_keep 39 = .ok (.goto (-26), 3) := by decide +kernel
theorem dX11_keep_42 : decode cX11_keep 42 = .ok (.aload_n 0, 1) := by decide +kernel
theorem dX11_keep_43 : decode cX11_keep 43 = .ok (.dup, 1) := by decide +kernel
theorem dX11_keep_44 : decode cX11_keep 44 = .ok (.getfield 273, 3) := by decide +kernel
theorem dX11_keep_47 : decode cX11_keep 47 = .ok (.iconst 1, 1) := by decide +kernel
theorem dX11_keep_48 : decode cX11_keep 48 = .ok (.isub, 1) := by decide +kernel
theorem dX11_keep_49 : decode cX11_keep 49 = .ok (.putfield 273, 3) := by decide +kernel
theorem dX11_keep_52 : decode cX11_keep 52 = .ok (.iconst 0, 1) := by decide +kernel
theorem dX11_keep_53 : decode cX11_keep 53 = .ok (.istore_n 1, 1) := by decide +kernel
theorem dX11_keep_54 : decode cX11_keep 54 = .ok (.iload_n 1, 1) := by decide +kernel
theorem dX11_keep_55 : decode cX11_keep 55 = .ok (.sipush 131, 3) := by decide +kernel
theorem dX11_keep_58 : decode cX11_keep 58 = .ok (.if_icmp .ge 30, 3) := by decide +kernel
theorem dX11_keep_61 : decode cX11_keep 61 = .ok (.aload_n 0, 1) := by decide +kernel
theorem dX11_keep_62 : decode cX11_keep 62 = .ok (.getfield 74, 3) := by decide +kernel
theorem dX11_keep_65 : decode cX11_keep 65 = .ok (.sipush 131, 3) := by decide +kernel
theorem dX11_keep_68 : decode cX11_keep 68 = .ok (.aload_n 0, 1) := by decide +kernel
theorem dX11_keep_69 : decode cX11_keep 69 = .ok (.getfield 273, 3) := by decide +kernel
theorem dX11_keep_72 : decode cX11_keep 72 = .ok (.imul, 1) := by decide +kernel
theorem dX11_keep_73 : decode cX11_keep 73 = .ok (.iload_n 1, 1) := by decide +kernel
theorem dX11_keep_74 : decode cX11_keep 74 = .ok (.iadd, 1) := by decide +kernel
theorem dX11_keep_75 : decode cX11_keep 75 = .ok (.aload_n 0, 1) := by decide +kernel
theorem dX11_keep_76 : decode cX11_keep 76 = .ok (.getfield 64, 3) := by decide +kernel
theorem dX11_keep_79 : decode cX11_keep 79 = .ok (.iload_n 1, 1) := by decide +kernel
theorem dX11_keep_80 : decode cX11_keep 80 = .ok (.iaload, 1) := by decide +kernel
theorem dX11_keep_81 : decode cX11_keep 81 = .ok (.iastore, 1) := by decide +kernel
theorem dX11_keep_82 : decode cX11_keep 82 = .ok (.iinc 1 1, 3) := by decide +kernel
theorem dX11_keep_85 : decode cX11_keep 85 = .ok (.goto (-31), 3) := by decide +kernel
theorem dX11_keep_88 : decode cX11_keep 88 = .ok (.aload_n 0, 1) := by decide +kernel
theorem dX11_keep_89 : decode cX11_keep 89 = .ok (.dup, 1) := by decide +kernel
theorem dX11_keep_90 : decode cX11_keep 90 = .ok (.getfield 273, 3) := by decide +kernel
theorem dX11_keep_93 : decode cX11_keep 93 = .ok (.iconst 1, 1) := by decide +kernel
theorem dX11_keep_94 : decode cX11_keep 94 = .ok (.iadd, 1) := by decide +kernel
theorem dX11_keep_95 : decode cX11_keep 95 = .ok (.putfield 273, 3) := by decide +kernel
theorem dX11_keep_98 : decode cX11_keep 98 = .ok (.return_, 1) := by decide +kernel
theorem dX11_isRefused_0 : decode cX11_isRefused 0 = .ok (.iload_n 1, 1) := by decide +kernel
theorem dX11_isRefused_1 : decode cX11_isRefused 1 = .ok (.iconst (-1), 1) := by decide +kernel
theorem dX11_isRefused_2 : decode cX11_isRefused 2 = .ok (.if_icmp .eq 13, 3) := by decide +kernel
theorem dX11_isRefused_5 : decode cX11_isRefused 5 = .ok (.aload_n 0, 1) := by decide +kernel
theorem dX11_isRefused_6 : decode cX11_isRefused 6 = .ok (.getfield 67, 3) := by decide +kernel
theorem dX11_isRefused_9 : decode cX11_isRefused 9 = .ok (.iload_n 1, 1) := by decide +kernel
theorem dX11_isRefused_10 : decode cX11_isRefused 10 = .ok (.dup2, 1) := by decide +kernel
theorem dX11_isRefused_11 : decode cX11_isRefused 11 = .ok (.iaload, 1) := by decide +kernel
theorem dX11_isRefused_12 : decode cX11_isRefused 12 = .ok (.iconst 1, 1) := by decide +kernel
theorem dX11_isRefused_13 : decode cX11_isRefused 13 = .ok (.iadd, 1) := by decide +kernel
theorem dX11_isRefused_14 : decode cX11_isRefused 14 = .ok (.iastore, 1) := by decide +kernel
theorem dX11_isRefused_15 : decode cX11_isRefused 15 = .ok (.iload_n 1, 1) := by decide +kernel
theorem dX11_isRefused_16 : decode cX11_isRefused 16 = .ok (.iconst (-1), 1) := by decide +kernel
theorem dX11_isRefused_17 : decode cX11_isRefused 17 = .ok (.if_icmp .eq 7, 3) := by decide +kernel
theorem dX11_isRefused_20 : decode cX11_isRefused 20 = .ok (.iconst 1, 1) := by decide +kernel
theorem dX11_isRefused_21 : decode cX11_isRefused 21 = .ok (.goto 4, 3) := by decide +kernel
theorem dX11_isRefused_24 : decode cX11_isRefused 24 = .ok (.iconst 0, 1) := by decide +kernel
theorem dX11_isRefused_25 : decode cX11_isRefused 25 = .ok (.ireturn, 1) := by decide +kernel
theorem dX11_whyNot_0 : decode cX11_whyNot 0 = .ok (.aload_n 0, 1) := by decide +kernel
theorem dX11_whyNot_1 : decode cX11_whyNot 1 = .ok (.iload_n 1, 1) := by decide +kernel
theorem dX11_whyNot_2 : decode cX11_whyNot 2 = .ok (.invokevirtual 328, 3) := by decide +kernel
theorem dX11_whyNot_5 : decode cX11_whyNot 5 = .ok (.ifCond .eq 11, 3) := by decide +kernel
theorem dX11_whyNot_8 : decode cX11_whyNot 8 = .ok (.aload_n 0, 1) := by decide +kernel
theorem dX11_whyNot_9 : decode cX11_whyNot 9 = .ok (.iload_n 2, 1) := by decide +kernel
theorem dX11_whyNot_10 : decode cX11_whyNot 10 = .ok (.invokevirtual 328, 3) := by decide +kernel
theorem dX11_whyNot_13 : decode cX11_whyNot 13 = .ok (.ifCond .ne 5, 3) := by decide +kernel
theorem dX11_whyNot_16 : decode cX11_whyNot 16 = .ok (.iconst 0, 1) := by decide +kernel
theorem dX11_whyNot_17 : decode cX11_whyNot 17 = .ok (.ireturn, 1) := by decide +kernel
theorem dX11_whyNot_18 : decode cX11_whyNot 18 = .ok (.iload_n 1, 1) := by decide +kernel
theorem dX11_whyNot_19 : decode cX11_whyNot 19 = .ok (.iload_n 2, 1) := by decide +kernel
theorem dX11_whyNot_20 : decode cX11_whyNot 20 = .ok (.if_icmp .ne 7, 3) := by decide +kernel
theorem dX11_whyNot_23 : decode cX11_whyNot 23 = .ok (.iconst 1, 1) := by decide +kernel
theorem dX11_whyNot_24 : decode cX11_whyNot 24 = .ok (.goto 43, 3) := by decide +kernel
theorem dX11_whyNot_27 : decode cX11_whyNot 27 = .ok (.aload_n 0, 1) := by decide +kernel
theorem dX11_whyNot_28 : decode cX11_whyNot 28 = .ok (.iload_n 1, 1) := by decide +kernel
theorem dX11_whyNot_29 : decode cX11_whyNot 29 = .ok (.invokevirtual 332, 3) := by decide +kernel
theorem dX11_whyNot_32 : decode cX11_whyNot 32 = .ok (.ifCond .eq 30, 3) := by decide +kernel
theorem dX11_whyNot_35 : decode cX11_whyNot 35 = .ok (.aload_n 0, 1) := by decide +kernel
theorem dX11_whyNot_36 : decode cX11_whyNot 36 = .ok (.iload_n 2, 1) := by decide +kernel
theorem dX11_whyNot_37 : decode cX11_whyNot 37 = .ok (.invokevirtual 332, 3) := by decide +kernel
theorem dX11_whyNot_40 : decode cX11_whyNot 40 = .ok (.ifCond .eq 22, 3) := by decide +kernel
theorem dX11_whyNot_43 : decode cX11_whyNot 43 = .ok (.aload_n 0, 1) := by decide +kernel
theorem dX11_whyNot_44 : decode cX11_whyNot 44 = .ok (.getfield 64, 3) := by decide +kernel
theorem dX11_whyNot_47 : decode cX11_whyNot 47 = .ok (.iconst 0, 1) := by decide +kernel
theorem dX11_whyNot_48 : decode cX11_whyNot 48 = .ok (.iload_n 1, 1) := by decide +kernel
theorem dX11_whyNot_49 : decode cX11_whyNot 49 = .ok (.iadd, 1) := by decide +kernel
theorem dX11_whyNot_50 : decode cX11_whyNot 50 = .ok (.iaload, 1) := by decide +kernel
theorem dX11_whyNot_51 : decode cX11_whyNot 51 = .ok (.aload_n 0, 1) := by decide +kernel
theorem dX11_whyNot_52 : decode cX11_whyNot 52 = .ok (.getfield 64, 3) := by decide +kernel
theorem dX11_whyNot_55 : decode cX11_whyNot 55 = .ok (.iconst 0, 1) := by decide +kernel
theorem dX11_whyNot_56 : decode cX11_whyNot 56 = .ok (.iload_n 2, 1) := by decide +kernel
theorem dX11_whyNot_57 : decode cX11_whyNot 57 = .ok (.iadd, 1) := by decide +kernel
theorem dX11_whyNot_58 : decode cX11_whyNot 58 = .ok (.iaload, 1) := by decide +kernel
theorem dX11_whyNot_59 : decode cX11_whyNot 59 = .ok (.if_icmp .ne 7, 3) := by decide +kernel
theorem dX11_whyNot_62 : decode cX11_whyNot 62 = .ok (.iconst 2, 1) := by decide +kernel
theorem dX11_whyNot_63 : decode cX11_whyNot 63 = .ok (.goto 4, 3) := by decide +kernel
theorem dX11_whyNot_66 : decode cX11_whyNot 66 = .ok (.iconst (-1), 1) := by decide +kernel
theorem dX11_whyNot_67 : decode cX11_whyNot 67 = .ok (.ireturn, 1) := by decide +kernel
theorem dX11_whyNotPlay_0 : decode cX11_whyNotPlay 0 = .ok (.aload_n 0, 1) := by decide +kernel
theorem dX11_whyNotPlay_1 : decode cX11_whyNotPlay 1 = .ok (.iload_n 1, 1) := by decide +kernel
theorem dX11_whyNotPlay_2 : decode cX11_whyNotPlay 2 = .ok (.iload_n 3, 1) := by decide +kernel
theorem dX11_whyNotPlay_3 : decode cX11_whyNotPlay 3 = .ok (.invokevirtual 335, 3) := by decide +kernel
theorem dX11_whyNotPlay_6 : decode cX11_whyNotPlay 6 = .ok (.istore 5, 2) := by decide +kernel
theorem dX11_whyNotPlay_8 : decode cX11_whyNotPlay 8 = .ok (.iload 5, 2) := by decide +kernel
theorem dX11_whyNotPlay_10 : decode cX11_whyNotPlay 10 = .ok (.ifCond .ne 7, 3) := by decide +kernel
theorem dX11_whyNotPlay_13 : decode cX11_whyNotPlay 13 = .ok (.iconst 0, 1) := by decide +kernel
theorem dX11_whyNotPlay_14 : decode cX11_whyNotPlay 14 = .ok (.goto 24, 3) := by decide +kernel
theorem dX11_whyNotPlay_17 : decode cX11_whyNotPlay 17 = .ok (.iload_n 2, 1) := by decide +kernel
theorem dX11_whyNotPlay_18 : decode cX11_whyNotPlay 18 = .ok (.invokestatic 338, 3) := by decide +kernel
theorem dX11_whyNotPlay_21 : decode cX11_whyNotPlay 21 = .ok (.ifCond .eq 11, 3) := by decide +kernel
theorem dX11_whyNotPlay_24 : decode cX11_whyNotPlay 24 = .ok (.iload 4, 2) := by decide +kernel
theorem dX11_whyNotPlay_26 : decode cX11_whyNotPlay 26 = .ok (.invokestatic 338, 3) := by decide +kernel
theorem dX11_whyNotPlay_29 : decode cX11_whyNotPlay 29 = .ok (.ifCond .ne 7, 3) := by decide +kernel
theorem dX11_whyNotPlay_32 : decode cX11_whyNotPlay 32 = .ok (.iconst 1, 1) := by decide +kernel
theorem dX11_whyNotPlay_33 : decode cX11_whyNotPlay 33 = .ok (.goto 5, 3) := by decide +kernel
theorem dX11_whyNotPlay_36 : decode cX11_whyNotPlay 36 = .ok (.iload 5, 2) := by decide +kernel
theorem dX11_whyNotPlay_38 : decode cX11_whyNotPlay 38 = .ok (.ireturn, 1) := by decide +kernel
theorem dX11_cellOf_0 : decode cX11_cellOf 0 = .ok (.aload_n 0, 1) := by decide +kernel
theorem dX11_cellOf_1 : decode cX11_cellOf 1 = .ok (.aload_n 0, 1) := by decide +kernel
theorem dX11_cellOf_2 : decode cX11_cellOf 2 = .ok (.getfield 64, 3) := by decide +kernel
theorem dX11_cellOf_5 : decode cX11_cellOf 5 = .ok (.iconst 0, 1) := by decide +kernel
theorem dX11_cellOf_6 : decode cX11_cellOf 6 = .ok (.iload_n 1, 1) := by decide +kernel
theorem dX11_cellOf_7 : decode cX11_cellOf 7 = .ok (.iadd, 1) := by decide +kernel
theorem dX11_cellOf_8 : decode cX11_cellOf 8 = .ok (.iaload, 1) := by decide +kernel
theorem dX11_cellOf_9 : decode cX11_cellOf 9 = .ok (.iload_n 1, 1) := by decide +kernel
theorem dX11_cellOf_10 : decode cX11_cellOf 10 = .ok (.iload_n 2, 1) := by decide +kernel
theorem dX11_cellOf_11 : decode cX11_cellOf 11 = .ok (.invokevirtual 341, 3) := by decide +kernel
theorem dX11_cellOf_14 : decode cX11_cellOf 14 = .ok (.ireturn, 1) := by decide +kernel
theorem dX11_playNow_0 : decode cX11_playNow 0 = .ok (.aload_n 0, 1) := by decide +kernel
theorem dX11_playNow_1 : decode cX11_playNow 1 = .ok (.iload_n 1, 1) := by decide +kernel
theorem dX11_playNow_2 : decode cX11_playNow 2 = .ok (.iload_n 2, 1) := by decide +kernel
theorem dX11_playNow_3 : decode cX11_playNow 3 = .ok (.invokevirtual 344, 3) := by decide +kernel
theorem dX11_playNow_6 : decode cX11_playNow 6 = .ok (.istore 5, 2) := by decide +kernel
theorem dX11_playNow_8 : decode cX11_playNow 8 = .ok (.aload_n 0, 1) := by decide +kernel
theorem dX11_playNow_9 : decode cX11_playNow 9 = .ok (.iload_n 3, 1) := by decide +kernel
theorem dX11_playNow_10 : decode cX11_playNow 10 = .ok (.iload 4, 2) := by decide +kernel
theorem dX11_playNow_12 : decode cX11_playNow 12 = .ok (.invokevirtual 344, 3) := by decide +kernel
theorem dX11_playNow_15 : decode cX11_playNow 15 = .ok (.istore 6, 2) := by decide +kernel
theorem dX11_playNow_17 : decode cX11_playNow 17 = .ok (.aload_n 0, 1) := by decide +kernel
theorem dX11_playNow_18 : decode cX11_playNow 18 = .ok (.iload 5, 2) := by decide +kernel
theorem dX11_playNow_20 : decode cX11_playNow 20 = .ok (.iload 6, 2) := by decide +kernel
theorem dX11_playNow_22 : decode cX11_playNow 22 = .ok (.invokevirtual 347, 3) := by decide +kernel
theorem dX11_playNow_25 : decode cX11_playNow 25 = .ok (.istore 7, 2) := by decide +kernel
theorem dX11_playNow_27 : decode cX11_playNow 27 = .ok (.iload 7, 2) := by decide +kernel
theorem dX11_playNow_29 : decode cX11_playNow 29 = .ok (.iconst 1, 1) := by decide +kernel
theorem dX11_playNow_30 : decode cX11_playNow 30 = .ok (.if_icmp .ne 19, 3) := by decide +kernel
theorem dX11_playNow_33 : decode cX11_playNow 33 = .ok (.aload_n 0, 1) := by decide +kernel
theorem dX11_playNow_34 : decode cX11_playNow 34 = .ok (.getfield 64, 3) := by decide +kernel
theorem dX11_playNow_37 : decode cX11_playNow 37 = .ok (.iconst 0, 1) := by decide +kernel
theorem dX11_playNow_38 : decode cX11_playNow 38 = .ok (.iload_n 3, 1) := by decide +kernel
theorem dX11_playNow_39 : decode cX11_playNow 39 = .ok (.iadd, 1) := by decide +kernel
theorem dX11_playNow_40 : decode cX11_playNow 40 = .ok (.aload_n 0, 1) := by decide +kernel
theorem dX11_playNow_41 : decode cX11_playNow 41 = .ok (.getfield 64, 3) := by decide +kernel
theorem dX11_playNow_44 : decode cX11_playNow 44 = .ok (.iconst 0, 1) := by decide +kernel
theorem dX11_playNow_45 : decode cX11_playNow 45 = .ok (.iload_n 1, 1) := by decide +kernel
theorem dX11_playNow_46 : decode cX11_playNow 46 = .ok (.iadd, 1) := by decide +kernel
theorem dX11_playNow_47 : decode cX11_playNow 47 = .ok (.iaload, 1) := by decide +kernel
theorem dX11_playNow_48 : decode cX11_playNow 48 = .ok (.iastore, 1) := by decide +kernel
theorem dX11_playNow_49 : decode cX11_playNow 49 = .ok (.iload 7, 2) := by decide +kernel
theorem dX11_playNow_51 : decode cX11_playNow 51 = .ok (.iconst 2, 1) := by decide +kernel
theorem dX11_playNow_52 : decode cX11_playNow 52 = .ok (.if_icmp .ne 19, 3) := by decide +kernel
theorem dX11_playNow_55 : decode cX11_playNow 55 = .ok (.aload_n 0, 1) := by decide +kernel
theorem dX11_playNow_56 : decode cX11_playNow 56 = .ok (.getfield 64, 3) := by decide +kernel
theorem dX11_playNow_59 : decode cX11_playNow 59 = .ok (.iconst 0, 1) := by decide +kernel
theorem dX11_playNow_60 : decode cX11_playNow 60 = .ok (.iload_n 1, 1) := by decide +kernel
theorem dX11_playNow_61 : decode cX11_playNow 61 = .ok (.iadd, 1) := by decide +kernel
theorem dX11_playNow_62 : decode cX11_playNow 62 = .ok (.aload_n 0, 1) := by decide +kernel
theorem dX11_playNow_63 : decode cX11_playNow 63 = .ok (.getfield 64, 3) := by decide +kernel
theorem dX11_playNow_66 : decode cX11_playNow 66 = .ok (.iconst 0, 1) := by decide +kernel
theorem dX11_playNow_67 : decode cX11_playNow 67 = .ok (.iload_n 3, 1) := by decide +kernel
theorem dX11_playNow_68 : decode cX11_playNow 68 = .ok (.iadd, 1) := by decide +kernel
theorem dX11_playNow_69 : decode cX11_playNow 69 = .ok (.iaload, 1) := by decide +kernel
theorem dX11_playNow_70 : decode cX11_playNow 70 = .ok (.iastore, 1) := by decide +kernel
theorem dX11_playNow_71 : decode cX11_playNow 71 = .ok (.aload_n 0, 1) := by decide +kernel
theorem dX11_playNow_72 : decode cX11_playNow 72 = .ok (.getfield 64, 3) := by decide +kernel
theorem dX11_playNow_75 : decode cX11_playNow 75 = .ok (.iconst 0, 1) := by decide +kernel
theorem dX11_playNow_76 : decode cX11_playNow 76 = .ok (.iload_n 1, 1) := by decide +kernel
theorem dX11_playNow_77 : decode cX11_playNow 77 = .ok (.iadd, 1) := by decide +kernel
theorem dX11_playNow_78 : decode cX11_playNow 78 = .ok (.aload_n 0, 1) := by decide +kernel
theorem dX11_playNow_79 : decode cX11_playNow 79 = .ok (.iload 5, 2) := by decide +kernel
theorem dX11_playNow_81 : decode cX11_playNow 81 = .ok (.invokevirtual 304, 3) := by decide +kernel
theorem dX11_playNow_84 : decode cX11_playNow 84 = .ok (.ifCond .eq 7, 3) := by decide +kernel
theorem dX11_playNow_87 : decode cX11_playNow 87 = .ok (.iconst (-1), 1) := by decide +kernel
theorem dX11_playNow_88 : decode cX11_playNow 88 = .ok (.goto 11, 3) := by decide +kernel
theorem dX11_playNow_91 : decode cX11_playNow 91 = .ok (.aload_n 0, 1) := by decide +kernel
theorem dX11_playNow_92 : decode cX11_playNow 92 = .ok (.getfield 64, 3) := by decide +kernel
theorem dX11_playNow_95 : decode cX11_playNow 95 = .ok (.iconst 0, 1) := by decide +kernel
theorem dX11_playNow_96 : decode cX11_playNow 96 = .ok (.iload_n 1, 1) := by decide +kernel
theorem dX11_playNow_97 : decode cX11_playNow 97 = .ok (.iadd, 1) := by decide +kernel
theorem dX11_playNow_98 : decode cX11_playNow 98 = .ok (.iaload, 1) := by decide +kernel
theorem dX11_playNow_99 : decode cX11_playNow 99 = .ok (.iastore, 1) := by decide +kernel
theorem dX11_playNow_100 : decode cX11_playNow 100 = .ok (.aload_n 0, 1) := by decide +kernel
theorem dX11_playNow_101 : decode cX11_playNow 101 = .ok (.getfield 64, 3) := by decide +kernel
theorem dX11_playNow_104 : decode cX11_playNow 104 = .ok (.iconst 0, 1) := by decide +kernel
theorem dX11_playNow_105 : decode cX11_playNow 105 = .ok (.iload_n 3, 1) := by decide +kernel
theorem dX11_playNow_106 : decode cX11_playNow 106 = .ok (.iadd, 1) := by decide +kernel
theorem dX11_playNow_107 : decode cX11_playNow 107 = .ok (.aload_n 0, 1) := by decide +kernel
theorem dX11_playNow_108 : decode cX11_playNow 108 = .ok (.iload 6, 2) := by decide +kernel
theorem dX11_playNow_110 : decode cX11_playNow 110 = .ok (.invokevirtual 304, 3) := by decide +kernel
theorem dX11_playNow_113 : decode cX11_playNow 113 = .ok (.ifCond .eq 7, 3) := by decide +kernel
theorem dX11_playNow_116 : decode cX11_playNow 116 = .ok (.iconst (-1), 1) := by decide +kernel
theorem dX11_playNow_117 : decode cX11_playNow 117 = .ok (.goto 11, 3) := by decide +kernel
theorem dX11_playNow_120 : decode cX11_playNow 120 = .ok (.aload_n 0, 1) := by decide +kernel
theorem dX11_playNow_121 : decode cX11_playNow 121 = .ok (.getfield 64, 3) := by decide +kernel
theorem dX11_playNow_124 : decode cX11_playNow 124 = .ok (.iconst 0, 1) := by decide +kernel
theorem dX11_playNow_125 : decode cX11_playNow 125 = .ok (.iload_n 3, 1) := by decide +kernel
theorem dX11_playNow_126 : decode cX11_playNow 126 = .ok (.iadd, 1) := by decide +kernel
theorem dX11_playNow_127 : decode cX11_playNow 127 = .ok (.iaload, 1) := by decide +kernel
theorem dX11_playNow_128 : decode cX11_playNow 128 = .ok (.iastore, 1) := by decide +kernel
theorem dX11_playNow_129 : decode cX11_playNow 129 = .ok (.iload 7, 2) := by decide +kernel
theorem dX11_playNow_131 : decode cX11_playNow 131 = .ok (.ireturn, 1) := by decide +kernel
theorem dX11_play_0 : decode cX11_play 0 = .ok (.aload_n 0, 1) := by decide +kernel
theorem dX11_play_1 : decode cX11_play 1 = .ok (.aload_n 0, 1) := by decide +kernel
theorem dX11_play_2 : decode cX11_play 2 = .ok (.iload_n 1, 1) := by decide +kernel
theorem dX11_play_3 : decode cX11_play 3 = .ok (.iload_n 2, 1) := by decide +kernel
theorem dX11_play_4 : decode cX11_play 4 = .ok (.iload_n 3, 1) := by decide +kernel
theorem dX11_play_5 : decode cX11_play 5 = .ok (.iload 4, 2) := by decide +kernel
theorem dX11_play_7 : decode cX11_play 7 = .ok (.invokevirtual 350, 3) := by decide +kernel
theorem dX11_play_10 : decode cX11_play 10 = .ok (.invokevirtual 354, 3) := by decide +kernel
theorem dX11_play_13 : decode cX11_play 13 = .ok (.ifCond .eq 5, 3) := by decide +kernel
theorem dX11_play_16 : decode cX11_play 16 = .ok (.iconst (-1), 1) := by decide +kernel
theorem dX11_play_17 : decode cX11_play 17 = .ok (.ireturn, 1) := by decide +kernel
theorem dX11_play_18 : decode cX11_play 18 = .ok (.aload_n 0, 1) := by decide +kernel
theorem dX11_play_19 : decode cX11_play 19 = .ok (.invokevirtual 357, 3) := by decide +kernel
theorem dX11_play_22 : decode cX11_play 22 = .ok (.aload_n 0, 1) := by decide +kernel
theorem dX11_play_23 : decode cX11_play 23 = .ok (.iload_n 1, 1) := by decide +kernel
theorem dX11_play_24 : decode cX11_play 24 = .ok (.iload_n 2, 1) := by decide +kernel
theorem dX11_play_25 : decode cX11_play 25 = .ok (.iload_n 3, 1) := by decide +kernel
theorem dX11_play_26 : decode cX11_play 26 = .ok (.iload 4, 2) := by decide +kernel
theorem dX11_play_28 : decode cX11_play 28 = .ok (.invokevirtual 360, 3) := by decide +kernel
theorem dX11_play_31 : decode cX11_play 31 = .ok (.ireturn, 1) := by decide +kernel
theorem dX11_swapNow_0 : decode cX11_swapNow 0 = .ok (.aload_n 0, 1) := by decide +kernel
theorem dX11_swapNow_1 : decode cX11_swapNow 1 = .ok (.getfield 64, 3) := by decide +kernel
theorem dX11_swapNow_4 : decode cX11_swapNow 4 = .ok (.iconst 0, 1) := by decide +kernel
theorem dX11_swapNow_5 : decode cX11_swapNow 5 = .ok (.iload_n 1, 1) := by decide +kernel
theorem dX11_swapNow_6 : decode cX11_swapNow 6 = .ok (.iadd, 1) := by decide +kernel
theorem dX11_swapNow_7 : decode cX11_swapNow 7 = .ok (.iaload, 1) := by decide +kernel
theorem dX11_swapNow_8 : decode cX11_swapNow 8 = .ok (.istore_n 3, 1) := by decide +kernel
theorem dX11_swapNow_9 : decode cX11_swapNow 9 = .ok (.aload_n 0, 1) := by decide +kernel
theorem dX11_swapNow_10 : decode cX11_swapNow 10 = .ok (.getfield 64, 3) := by decide +kernel
theorem dX11_swapNow_13 : decode cX11_swapNow 13 = .ok (.iconst 0, 1) := by decide +kernel
theorem dX11_swapNow_14 : decode cX11_swapNow 14 = .ok (.iload_n 1, 1) := by decide +kernel
theorem dX11_swapNow_15 : decode cX11_swapNow 15 = .ok (.iadd, 1) := by decide +kernel
theorem dX11_swapNow_16 : decode cX11_swapNow 16 = .ok (.aload_n 0, 1) := by decide +kernel
theorem dX11_swapNow_17 : decode cX11_swapNow 17 = .ok (.getfield 64, 3) := by decide +kernel
theorem dX11_swapNow_20 : decode cX11_swapNow 20 = .ok (.iconst 0, 1) := by decide +kernel
theorem dX11_swapNow_21 : decode cX11_swapNow 21 = .ok (.iload_n 2, 1) := by decide +kernel
theorem dX11_swapNow_22 : decode cX11_swapNow 22 = .ok (.iadd, 1) := by decide +kernel
theorem dX11_swapNow_23 : decode cX11_swapNow 23 = .ok (.iaload, 1) := by decide +kernel
theorem dX11_swapNow_24 : decode cX11_swapNow 24 = .ok (.iastore, 1) := by decide +kernel
theorem dX11_swapNow_25 : decode cX11_swapNow 25 = .ok (.aload_n 0, 1) := by decide +kernel
theorem dX11_swapNow_26 : decode cX11_swapNow 26 = .ok (.getfield 64, 3) := by decide +kernel
theorem dX11_swapNow_29 : decode cX11_swapNow 29 = .ok (.iconst 0, 1) := by decide +kernel
theorem dX11_swapNow_30 : decode cX11_swapNow 30 = .ok (.iload_n 2, 1) := by decide +kernel
theorem dX11_swapNow_31 : decode cX11_swapNow 31 = .ok (.iadd, 1) := by decide +kernel
theorem dX11_swapNow_32 : decode cX11_swapNow 32 = .ok (.iload_n 3, 1) := by decide +kernel
theorem dX11_swapNow_33 : decode cX11_swapNow 33 = .ok (.iastore, 1) := by decide +kernel
theorem dX11_swapNow_34 : decode cX11_swapNow 34 = .ok (.return_, 1) := by decide +kernel
theorem dX11_swap_0 : decode cX11_swap 0 = .ok (.aload_n 0, 1) := by decide +kernel
theorem dX11_swap_1 : decode cX11_swap 1 = .ok (.aload_n 0, 1) := by decide +kernel
theorem dX11_swap_2 : decode cX11_swap 2 = .ok (.iload_n 1, 1) := by decide +kernel
theorem dX11_swap_3 : decode cX11_swap 3 = .ok (.iload_n 2, 1) := by decide +kernel
theorem dX11_swap_4 : decode cX11_swap 4 = .ok (.invokevirtual 335, 3) := by decide +kernel
theorem dX11_swap_7 : decode cX11_swap 7 = .ok (.invokevirtual 354, 3) := by decide +kernel
theorem dX11_swap_10 : decode cX11_swap 10 = .ok (.ifCond .eq 5, 3) := by decide +kernel
theorem dX11_swap_13 : decode cX11_swap 13 = .ok (.iconst (-1), 1) := by decide +kernel
theorem dX11_swap_14 : decode cX11_swap 14 = .ok (.ireturn, 1) := by decide +kernel
theorem dX11_swap_15 : decode cX11_swap 15 = .ok (.aload_n 0, 1) := by decide +kernel
theorem dX11_swap_16 : decode cX11_swap 16 = .ok (.invokevirtual 357, 3) := by decide +kernel
theorem dX11_swap_19 : decode cX11_swap 19 = .ok (.aload_n 0, 1) := by decide +kernel
theorem dX11_swap_20 : decode cX11_swap 20 = .ok (.iload_n 1, 1) := by decide +kernel
theorem dX11_swap_21 : decode cX11_swap 21 = .ok (.iload_n 2, 1) := by decide +kernel
theorem dX11_swap_22 : decode cX11_swap 22 = .ok (.invokevirtual 363, 3) := by decide +kernel
theorem dX11_swap_25 : decode cX11_swap 25 = .ok (.aload_n 0, 1) := by decide +kernel
theorem dX11_swap_26 : decode cX11_swap 26 = .ok (.getfield 64, 3) := by decide +kernel
theorem dX11_swap_29 : decode cX11_swap 29 = .ok (.iconst 0, 1) := by decide +kernel
theorem dX11_swap_30 : decode cX11_swap 30 = .ok (.iload_n 1, 1) := by decide +kernel
theorem dX11_swap_31 : decode cX11_swap 31 = .ok (.iadd, 1) := by decide +kernel
theorem dX11_swap_32 : decode cX11_swap 32 = .ok (.iaload, 1) := by decide +kernel
theorem dX11_swap_33 : decode cX11_swap 33 = .ok (.ireturn, 1) := by decide +kernel
theorem dX11_give_0 : decode cX11_give 0 = .ok (.aload_n 0, 1) := by decide +kernel
theorem dX11_give_1 : decode cX11_give 1 = .ok (.aload_n 0, 1) := by decide +kernel
theorem dX11_give_2 : decode cX11_give 2 = .ok (.iload_n 1, 1) := by decide +kernel
theorem dX11_give_3 : decode cX11_give 3 = .ok (.invokevirtual 328, 3) := by decide +kernel
theorem dX11_give_6 : decode cX11_give 6 = .ok (.ifCond .eq 11, 3) := by decide +kernel
theorem dX11_give_9 : decode cX11_give 9 = .ok (.aload_n 0, 1) := by decide +kernel
theorem dX11_give_10 : decode cX11_give 10 = .ok (.iload_n 2, 1) := by decide +kernel
theorem dX11_give_11 : decode cX11_give 11 = .ok (.invokevirtual 325, 3) := by decide +kernel
theorem dX11_give_14 : decode cX11_give 14 = .ok (.ifCond .ne 7, 3) := by decide +kernel
theorem dX11_give_17 : decode cX11_give 17 = .ok (.iconst 0, 1) := by decide +kernel
theorem dX11_give_18 : decode cX11_give 18 = .ok (.goto 48, 3) := by decide +kernel
theorem dX11_give_21 : decode cX11_give 21 = .ok (.aload_n 0, 1) := by decide +kernel
theorem dX11_give_22 : decode cX11_give 22 = .ok (.iload_n 1, 1) := by decide +kernel
theorem dX11_give_23 : decode cX11_give 23 = .ok (.invokevirtual 332, 3) := by decide +kernel
theorem dX11_give_26 : decode cX11_give 26 = .ok (.ifCond .eq 15, 3) := by decide +kernel
theorem dX11_give_29 : decode cX11_give 29 = .ok (.aload_n 0, 1) := by decide +kernel
theorem dX11_give_30 : decode cX11_give 30 = .ok (.getfield 64, 3) := by decide +kernel
theorem dX11_give_33 : decode cX11_give 33 = .ok (.iconst 0, 1) := by decide +kernel
theorem dX11_give_34 : decode cX11_give 34 = .ok (.iload_n 1, 1) := by decide +kernel
theorem dX11_give_35 : decode cX11_give 35 = .ok (.iadd, 1) := by decide +kernel
theorem dX11_give_36 : decode cX11_give 36 = .ok (.iaload, 1) := by decide +kernel
theorem dX11_give_37 : decode cX11_give 37 = .ok (.iload_n 2, 1) := by decide +kernel
theorem dX11_give_38 : decode cX11_give 38 = .ok (.if_icmp .ne 7, 3) := by decide +kernel
theorem dX11_give_41 : decode cX11_give 41 = .ok (.iconst 2, 1) := by decide +kernel
theorem dX11_give_42 : decode cX11_give 42 = .ok (.goto 24, 3) := by decide +kernel
theorem dX11_give_45 : decode cX11_give 45 = .ok (.aload_n 0, 1) := by decide +kernel
theorem dX11_give_46 : decode cX11_give 46 = .ok (.getfield 64, 3) := by decide +kernel
theorem dX11_give_49 : decode cX11_give 49 = .ok (.bipush 8, 2) := by decide +kernel
theorem dX11_give_51 : decode cX11_give 51 = .ok (.iaload, 1) := by decide +kernel
theorem dX11_give_52 : decode cX11_give 52 = .ok (.aload_n 0, 1) := by decide +kernel
theorem dX11_give_53 : decode cX11_give 53 = .ok (.iload_n 1, 1) := by decide +kernel
theorem dX11_give_54 : decode cX11_give 54 = .ok (.iconst 2, 1) := by decide +kernel
theorem dX11_give_55 : decode cX11_give 55 = .ok (.invokevirtual 267, 3) := by decide +kernel
theorem dX11_give_58 : decode cX11_give 58 = .ok (.if_icmp .ge 7, 3) := by decide +kernel
theorem dX11_give_61 : decode cX11_give 61 = .ok (.iconst 3, 1) := by decide +kernel
theorem dX11_give_62 : decode cX11_give 62 = .ok (.goto 4, 3) := by decide +kernel
theorem dX11_give_65 : decode cX11_give 65 = .ok (.iconst (-1), 1) := by decide +kernel
theorem dX11_give_66 : decode cX11_give 66 = .ok (.invokevirtual 354, 3) := by decide +kernel
theorem dX11_give_69 : decode cX11_give 69 = .ok (.ifCond .eq 5, 3) := by decide +kernel
theorem dX11_give_72 : decode cX11_give 72 = .ok (.iconst (-1), 1) := by decide +kernel
theorem dX11_give_73 : decode cX11_give 73 = .ok (.ireturn, 1) := by decide +kernel
theorem dX11_give_74 : decode cX11_give 74 = .ok (.aload_n 0, 1) := by decide +kernel
theorem dX11_give_75 : decode cX11_give 75 = .ok (.invokevirtual 357, 3) := by decide +kernel
theorem dX11_give_78 : decode cX11_give 78 = .ok (.aload_n 0, 1) := by decide +kernel
theorem dX11_give_79 : decode cX11_give 79 = .ok (.getfield 64, 3) := by decide +kernel
theorem dX11_give_82 : decode cX11_give 82 = .ok (.iconst 0, 1) := by decide +kernel
theorem dX11_give_83 : decode cX11_give 83 = .ok (.iload_n 1, 1) := by decide +kernel
theorem dX11_give_84 : decode cX11_give 84 = .ok (.iadd, 1) := by decide +kernel
theorem dX11_give_85 : decode cX11_give 85 = .ok (.iload_n 2, 1) := by decide +kernel
theorem dX11_give_86 : decode cX11_give 86 = .ok (.iastore, 1) := by decide +kernel
theorem dX11_give_87 : decode cX11_give 87 = .ok (.aload_n 0, 1) := by decide +kernel
theorem dX11_give_88 : decode cX11_give 88 = .ok (.getfield 64, 3) := by decide +kernel
theorem dX11_give_91 : decode cX11_give 91 = .ok (.bipush 8, 2) := by decide +kernel
theorem dX11_give_93 : decode cX11_give 93 = .ok (.dup2, 1) := by decide +kernel
theorem dX11_give_94 : decode cX11_give 94 = .ok (.iaload, 1) := by decide +kernel
theorem dX11_give_95 : decode cX11_give 95 = .ok (.aload_n 0, 1) := by decide +kernel
theorem dX11_give_96 : decode cX11_give 96 = .ok (.iload_n 1, 1) := by decide +kernel
theorem dX11_give_97 : decode cX11_give 97 = .ok (.iconst 2, 1) := by decide +kernel
theorem dX11_give_98 : decode cX11_give 98 = .ok (.invokevirtual 267, 3) := by decide +kernel
theorem dX11_give_101 : decode cX11_give 101 = .ok (.isub, 1) := by decide +kernel
theorem dX11_give_102 : decode cX11_give 102 = .ok (.iastore, 1) := by decide +kernel
theorem dX11_give_103 : decode cX11_give 103 = .ok (.aload_n 0, 1) := by decide +kernel
theorem dX11_give_104 : decode cX11_give 104 = .ok (.getfield 64, 3) := by decide +kernel
theorem dX11_give_107 : decode cX11_give 107 = .ok (.bipush 8, 2) := by decide +kernel
theorem dX11_give_109 : decode cX11_give 109 = .ok (.iaload, 1) := by decide +kernel
theorem dX11_give_110 : decode cX11_give 110 = .ok (.ireturn, 1) := by decide +kernel
theorem dX11_mark_0 : decode cX11_mark 0 = .ok (.aload_n 0, 1) := by decide +kernel
theorem dX11_mark_1 : decode cX11_mark 1 = .ok (.aload_n 0, 1) := by decide +kernel
theorem dX11_mark_2 : decode cX11_mark 2 = .ok (.iload_n 2, 1) := by decide +kernel
theorem dX11_mark_3 : decode cX11_mark 3 = .ok (.invokevirtual 328, 3) := by decide +kernel
theorem dX11_mark_6 : decode cX11_mark 6 = .ok (.ifCond .ne 7, 3) := by decide +kernel
theorem dX11_mark_9 : decode cX11_mark 9 = .ok (.iconst 0, 1) := by decide +kernel
theorem dX11_mark_10 : decode cX11_mark 10 = .ok (.goto 33, 3) := by decide +kernel
theorem dX11_mark_13 : decode cX11_mark 13 = .ok (.aload_n 0, 1) := by decide +kernel
theorem dX11_mark_14 : decode cX11_mark 14 = .ok (.getfield 64, 3) := by decide +kernel
theorem dX11_mark_17 : decode cX11_mark 17 = .ok (.iload_n 1, 1) := by decide +kernel
theorem dX11_mark_18 : decode cX11_mark 18 = .ok (.iaload, 1) := by decide +kernel
theorem dX11_mark_19 : decode cX11_mark 19 = .ok (.iload_n 2, 1) := by decide +kernel
theorem dX11_mark_20 : decode cX11_mark 20 = .ok (.invokestatic 219, 3) := by decide +kernel
theorem dX11_mark_23 : decode cX11_mark 23 = .ok (.ifCond .ne 15, 3) := by decide +kernel
theorem dX11_mark_26 : decode cX11_mark 26 = .ok (.aload_n 0, 1) := by decide +kernel
theorem dX11_mark_27 : decode cX11_mark 27 = .ok (.getfield 64, 3) := by decide +kernel
theorem dX11_mark_30 : decode cX11_mark 30 = .ok (.iconst 0, 1) := by decide +kernel
theorem dX11_mark_31 : decode cX11_mark 31 = .ok (.iload_n 2, 1) := by decide +kernel
theorem dX11_mark_32 : decode cX11_mark 32 = .ok (.iadd, 1) := by decide +kernel
theorem dX11_mark_33 : decode cX11_mark 33 = .ok (.iaload, 1) := by decide +kernel
theorem dX11_mark_34 : decode cX11_mark 34 = .ok (.iconst (-1), 1) := by decide +kernel
theorem dX11_mark_35 : decode cX11_mark 35 = .ok (.if_icmp .ne 7, 3) := by decide +kernel
theorem dX11_mark_38 : decode cX11_mark 38 = .ok (.iconst 2, 1) := by decide +kernel
theorem dX11_mark_39 : decode cX11_mark 39 = .ok (.goto 4, 3) := by decide +kernel
theorem dX11_mark_42 : decode cX11_mark 42 = .ok (.iconst (-1), 1) := by decide +kernel
theorem dX11_mark_43 : decode cX11_mark 43 = .ok (.invokevirtual 354, 3) := by decide +kernel
theorem dX11_mark_46 : decode cX11_mark 46 = .ok (.ifCond .eq 5, 3) := by decide +kernel
theorem dX11_mark_49 : decode cX11_mark 49 = .ok (.iconst (-1), 1) := by decide +kernel
theorem dX11_mark_50 : decode cX11_mark 50 = .ok (.ireturn, 1) := by decide +kernel
theorem dX11_mark_51 : decode cX11_mark 51 = .ok (.aload_n 0, 1) := by decide +kernel
theorem dX11_mark_52 : decode cX11_mark 52 = .ok (.invokevirtual 357, 3) := by decide +kernel
theorem dX11_mark_55 : decode cX11_mark 55 = .ok (.aload_n 0, 1) := by decide +kernel
theorem dX11_mark_56 : decode cX11_mark 56 = .ok (.getfield 64, 3) := by decide +kernel
theorem dX11_mark_59 : decode cX11_mark 59 = .ok (.iload_n 1, 1) := by decide +kernel
theorem dX11_mark_60 : decode cX11_mark 60 = .ok (.dup2, 1) := by decide +kernel
theorem dX11_mark_61 : decode cX11_mark 61 = .ok (.iaload, 1) := by decide +kernel
theorem dX11_mark_62 : decode cX11_mark 62 = .ok (.iconst 1, 1) := by decide +kernel
theorem dX11_mark_63 : decode cX11_mark 63 = .ok (.iload_n 2, 1) := by decide +kernel
theorem dX11_mark_64 : decode cX11_mark 64 = .ok (.ishl, 1) := by decide +kernel
theorem dX11_mark_65 : decode cX11_mark 65 = .ok (.ior, 1) := by decide +kernel
theorem dX11_mark_66 : decode cX11_mark 66 = .ok (.iastore, 1) := by decide +kernel
theorem dX11_mark_67 : decode cX11_mark 67 = .ok (.aload_n 0, 1) := by decide +kernel
theorem dX11_mark_68 : decode cX11_mark 68 = .ok (.getfield 64, 3) := by decide +kernel
theorem dX11_mark_71 : decode cX11_mark 71 = .ok (.iload_n 1, 1) := by decide +kernel
theorem dX11_mark_72 : decode cX11_mark 72 = .ok (.iaload, 1) := by decide +kernel
theorem dX11_mark_73 : decode cX11_mark 73 = .ok (.invokestatic 289, 3) := by decide +kernel
theorem dX11_mark_76 : decode cX11_mark 76 = .ok (.ireturn, 1) := by decide +kernel
theorem dX11_chip_0 : decode cX11_chip 0 = .ok (.aload_n 0, 1) := by decide +kernel
theorem dX11_chip_1 : decode cX11_chip 1 = .ok (.bipush 6, 2) := by decide +kernel
theorem dX11_chip_3 : decode cX11_chip 3 = .ok (.iload_n 1, 1) := by decide +kernel
theorem dX11_chip_4 : decode cX11_chip 4 = .ok (.invokevirtual 366, 3) := by decide +kernel
theorem dX11_chip_7 : decode cX11_chip 7 = .ok (.ireturn, 1) := by decide +kernel
theorem dX11_swallow_0 : decode cX11_swallow 0 = .ok (.aload_n 0, 1) := by decide +kernel
theorem dX11_swallow_1 : decode cX11_swallow 1 = .ok (.bipush 7, 2) := by decide +kernel
theorem dX11_swallow_3 : decode cX11_swallow 3 = .ok (.iload_n 1, 1) := by decide +kernel
theorem dX11_swallow_4 : decode cX11_swallow 4 = .ok (.invokevirtual 366, 3) := by decide +kernel
theorem dX11_swallow_7 : decode cX11_swallow 7 = .ok (.ireturn, 1) := by decide +kernel
theorem dX11_passDay_0 : decode cX11_passDay 0 = .ok (.aload_n 0, 1) := by decide +kernel
theorem dX11_passDay_1 : decode cX11_passDay 1 = .ok (.invokevirtual 369, 3) := by decide +kernel
theorem dX11_passDay_4 : decode cX11_passDay 4 = .ok (.istore_n 1, 1) := by decide +kernel
theorem dX11_passDay_5 : decode cX11_passDay 5 = .ok (.aload_n 0, 1) := by decide +kernel
theorem dX11_passDay_6 : decode cX11_passDay 6 = .ok (.getfield 64, 3) := by decide +kernel
theorem dX11_passDay_9 : decode cX11_passDay 9 = .ok (.bipush 8, 2) := by decide +kernel
theorem dX11_passDay_11 : decode cX11_passDay 11 = .ok (.sipush 999, 3) := by decide +kernel
theorem dX11_passDay_14 : decode cX11_passDay 14 = .ok (.aload_n 0, 1) := by decide +kernel
theorem dX11_passDay_15 : decode cX11_passDay 15 = .ok (.getfield 64, 3) := by decide +kernel
theorem dX11_passDay_18 : decode cX11_passDay 18 = .ok (.bipush 8, 2) := by decide +kernel
theorem dX11_passDay_20 : decode cX11_passDay 20 = .ok (.iaload, 1) := by decide +kernel
theorem dX11_passDay_21 : decode cX11_passDay 21 = .ok (.aload_n 0, 1) := by decide +kernel
theorem dX11_passDay_22 : decode cX11_passDay 22 = .ok (.iload_n 1, 1) := by decide +kernel
theorem dX11_passDay_23 : decode cX11_passDay 23 = .ok (.invokevirtual 372, 3) := by decide +kernel
theorem dX11_passDay_26 : decode cX11_passDay 26 = .ok (.iadd, 1) := by decide +kernel
theorem dX11_passDay_27 : decode cX11_passDay 27 = .ok (.invokestatic 297, 3) := by decide +kernel
theorem dX11_passDay_30 : decode cX11_passDay 30 = .ok (.iastore, 1) := by decide +kernel
theorem dX11_passDay_31 : decode cX11_passDay 31 = .ok (.aload_n 0, 1) := by decide +kernel
theorem dX11_passDay_32 : decode cX11_passDay 32 = .ok (.getfield 64, 3) := by decide +kernel
theorem dX11_passDay_35 : decode cX11_passDay 35 = .ok (.bipush 9, 2) := by decide +kernel
theorem dX11_passDay_37 : decode cX11_passDay 37 = .ok (.dup2, 1) := by decide +kernel
theorem dX11_passDay_38 : decode cX11_passDay 38 = .ok (.iaload, 1) := by decide +kernel
theorem dX11_passDay_39 : decode cX11_passDay 39 = .ok (.iconst 1, 1) := by decide +kernel
theorem dX11_passDay_40 : decode cX11_passDay 40 = .ok (.iadd, 1) := by decide +kernel
theorem dX11_passDay_41 : decode cX11_passDay 41 = .ok (.iastore, 1) := by decide +kernel
theorem dX11_passDay_42 : decode cX11_passDay 42 = .ok (.aload_n 0, 1) := by decide +kernel
theorem dX11_passDay_43 : decode cX11_passDay 43 = .ok (.getfield 64, 3) := by decide +kernel
theorem dX11_passDay_46 : decode cX11_passDay 46 = .ok (.bipush 10, 2) := by decide +kernel
theorem dX11_passDay_48 : decode cX11_passDay 48 = .ok (.iaload, 1) := by decide +kernel
theorem dX11_passDay_49 : decode cX11_passDay 49 = .ok (.bipush 60, 2) := by decide +kernel
theorem dX11_passDay_51 : decode cX11_passDay 51 = .ok (.if_icmp .ne 48, 3) := by decide +kernel
theorem dX11_passDay_54 : decode cX11_passDay 54 = .ok (.iconst 2, 1) := by decide +kernel
theorem dX11_passDay_55 : decode cX11_passDay 55 = .ok (.istore_n 2, 1) := by decide +kernel
theorem dX11_passDay_56 : decode cX11_passDay 56 = .ok (.iload_n 2, 1) := by decide +kernel
theorem dX11_passDay_57 : decode cX11_passDay 57 = .ok (.bipush 120, 2) := by decide +kernel
theorem dX11_passDay_59 : decode cX11_passDay 59 = .ok (.if_icmp .ge 29, 3) := by decide +kernel
theorem dX11_passDay_62 : decode cX11_passDay 62 = .ok (.aload_n 0, 1) := by decide +kernel
theorem dX11_passDay_63 : decode cX11_passDay 63 = .ok (.getfield 64, 3) := by decide +kernel
theorem dX11_passDay_66 : decode cX11_passDay 66 = .ok (.bipush 11, 2) := by decide +kernel
theorem dX11_passDay_68 : decode cX11_passDay 68 = .ok (.iload_n 2, 1) := by decide +kernel
theorem dX11_passDay_69 : decode cX11_passDay 69 = .ok (.iadd, 1) := by decide +kernel
theorem dX11_passDay_70 : decode cX11_passDay 70 = .ok (.iconst 2, 1) := by decide +kernel
theorem dX11_passDay_71 : decode cX11_passDay 71 = .ok (.isub, 1) := by decide +kernel
theorem dX11_passDay_72 : decode cX11_passDay 72 = .ok (.aload_n 0, 1) := by decide +kernel
theorem dX11_passDay_73 : decode cX11_passDay 73 = .ok (.getfield 64, 3) := by decide +kernel
theorem dX11_passDay_76 : decode cX11_passDay 76 = .ok (.bipush 11, 2) := by decide +kernel
theorem dX11_passDay_78 : decode cX11_passDay 78 = .ok (.iload_n 2, 1) := by decide +kernel
theorem dX11_passDay_79 : decode cX11_passDay 79 = .ok (.iadd, 1) := by decide +kernel
theorem dX11_passDay_80 : decode cX11_passDay 80 = .ok (.iaload, 1) := by decide +kernel
theorem dX11_passDay_81 : decode cX11_passDay 81 = .ok (.iastore, 1) := by decide +kernel
theorem dX11_passDay_82 : decode cX11_passDay 82 = .ok (.iinc 2 1, 3) := by decide +kernel
theorem dX11_passDay_85 : decode cX11_passDay 85 = .ok (.goto (-29), 3) := by decide +kernel
theorem dX11_passDay_88 : decode cX11_passDay 88 = .ok (.aload_n 0, 1) := by decide +kernel
theorem dX11_passDay_89 : decode cX11_passDay 89 = .ok (.getfield 64, 3) := by decide +kernel
theorem dX11_passDay_92 : decode cX11_passDay 92 = .ok (.bipush 10, 2) := by decide +kernel
theorem dX11_passDay_94 : decode cX11_passDay 94 = .ok (.dup2, 1) := by decide +kernel
theorem dX11_passDay_95 : decode cX11_passDay 95 = .ok (.iaload, 1) := by decide +kernel
theorem dX11_passDay_96 : decode cX11_passDay 96 = .ok (.iconst 1, 1) := by decide +kernel
theorem dX11_passDay_97 : decode cX11_passDay 97 = .ok (.isub, 1) := by decide +kernel
theorem dX11_passDay_98 : decode cX11_passDay 98 = .ok (.iastore, 1) := by decide +kernel
theorem dX11_passDay_99 : decode cX11_passDay 99 = .ok (.aload_n 0, 1) := by decide +kernel
theorem dX11_passDay_100 : decode cX11_passDay 100 = .ok (.getfield 64, 3) := by decide +kernel
theorem dX11_passDay_103 : decode cX11_passDay 103 = .ok (.bipush 11, 2) := by decide +kernel
theorem dX11_passDay_105 : decode cX11_passDay 105 = .ok (.iconst 2, 1) := by decide +kernel
theorem dX11_passDay_106 : decode cX11_passDay 106 = .ok (.aload_n 0, 1) := by decide +kernel
theorem dX11_passDay_107 : decode cX11_passDay 107 = .ok (.getfield 64, 3) := by decide +kernel
theorem dX11_passDay_110 : decode cX11_passDay 110 = .ok (.bipush 10, 2) := by decide +kernel
theorem dX11_passDay_112 : decode cX11_passDay 112 = .ok (.iaload, 1) := by decide +kernel
theorem dX11_passDay_113 : decode cX11_passDay 113 = .ok (.imul, 1) := by decide +kernel
theorem dX11_passDay_114 : decode cX11_passDay 114 = .ok (.iadd, 1) := by decide +kernel
theorem dX11_passDay_115 : decode cX11_passDay 115 = .ok (.aload_n 0, 1) := by decide +kernel
theorem dX11_passDay_116 : decode cX11_passDay 116 = .ok (.getfield 64, 3) := by decide +kernel
theorem dX11_passDay_119 : decode cX11_passDay 119 = .ok (.bipush 8, 2) := by decide +kernel
theorem dX11_passDay_121 : decode cX11_passDay 121 = .ok (.iaload, 1) := by decide +kernel
theorem dX11_passDay_122 : decode cX11_passDay 122 = .ok (.iastore, 1) := by decide +kernel
theorem dX11_passDay_123 : decode cX11_passDay 123 = .ok (.aload_n 0, 1) := by decide +kernel
theorem dX11_passDay_124 : decode cX11_passDay 124 = .ok (.getfield 64, 3) := by decide +kernel
theorem dX11_passDay_127 : decode cX11_passDay 127 = .ok (.bipush 11, 2) := by decide +kernel
theorem dX11_passDay_129 : decode cX11_passDay 129 = .ok (.iconst 2, 1) := by decide +kernel
theorem dX11_passDay_130 : decode cX11_passDay 130 = .ok (.aload_n 0, 1) := by decide +kernel
theorem dX11_passDay_131 : decode cX11_passDay 131 = .ok (.getfield 64, 3) := by decide +kernel
theorem dX11_passDay_134 : decode cX11_passDay 134 = .ok (.bipush 10, 2) := by decide +kernel
theorem dX11_passDay_136 : decode cX11_passDay 136 = .ok (.iaload, 1) := by decide +kernel
theorem dX11_passDay_137 : decode cX11_passDay 137 = .ok (.imul, 1) := by decide +kernel
theorem dX11_passDay_138 : decode cX11_passDay 138 = .ok (.iadd, 1) := by decide +kernel
theorem dX11_passDay_139 : decode cX11_passDay 139 = .ok (.iconst 1, 1) := by decide +kernel
theorem dX11_passDay_140 : decode cX11_passDay 140 = .ok (.iadd, 1) := by decide +kernel
theorem dX11_passDay_141 : decode cX11_passDay 141 = .ok (.iload_n 1, 1) := by decide +kernel
theorem dX11_passDay_142 : decode cX11_passDay 142 = .ok (.iastore, 1) := by decide +kernel
theorem dX11_passDay_143 : decode cX11_passDay 143 = .ok (.aload_n 0, 1) := by decide +kernel
theorem dX11_passDay_144 : decode cX11_passDay 144 = .ok (.getfield 64, 3) := by decide +kernel
theorem dX11_passDay_147 : decode cX11_passDay 147 = .ok (.bipush 10, 2) := by decide +kernel
theorem dX11_passDay_149 : decode cX11_passDay 149 = .ok (.dup2, 1) := by decide +kernel
theorem dX11_passDay_150 : decode cX11_passDay 150 = .ok (.iaload, 1) := by decide +kernel
theorem dX11_passDay_151 : decode cX11_passDay 151 = .ok (.iconst 1, 1) := by decide +kernel
theorem dX11_passDay_152 : decode cX11_passDay 152 = .ok (.iadd, 1) := by decide +kernel
theorem dX11_passDay_153 : decode cX11_passDay 153 = .ok (.iastore, 1) := by decide +kernel
theorem dX11_passDay_154 : decode cX11_passDay 154 = .ok (.return_, 1) := by decide +kernel
theorem dX11_areDays_0 : decode cX11_areDays 0 = .ok (.iload_n 1, 1) := by decide +kernel
theorem dX11_areDays_1 : decode cX11_areDays 1 = .ok (.iconst 1, 1) := by decide +kernel
theorem dX11_areDays_2 : decode cX11_areDays 2 = .ok (.bipush 60, 2) := by decide +kernel
theorem dX11_areDays_4 : decode cX11_areDays 4 = .ok (.invokestatic 208, 3) := by decide +kernel
theorem dX11_areDays_7 : decode cX11_areDays 7 = .ok (.ifCond .eq 22, 3) := by decide +kernel
theorem dX11_areDays_10 : decode cX11_areDays 10 = .ok (.aload_n 0, 1) := by decide +kernel
theorem dX11_areDays_11 : decode cX11_areDays 11 = .ok (.getfield 64, 3) := by decide +kernel
theorem dX11_areDays_14 : decode cX11_areDays 14 = .ok (.bipush 9, 2) := by decide +kernel
theorem dX11_areDays_16 : decode cX11_areDays 16 = .ok (.iaload, 1) := by decide +kernel
theorem dX11_areDays_17 : decode cX11_areDays 17 = .ok (.iload_n 1, 1) := by decide +kernel
theorem dX11_areDays_18 : decode cX11_areDays 18 = .ok (.iadd, 1) := by decide +kernel
theorem dX11_areDays_19 : decode cX11_areDays 19 = .ok (.sipush 9999, 3) := by decide +kernel
theorem dX11_areDays_22 : decode cX11_areDays 22 = .ok (.if_icmp .gt 7, 3) := by decide +kernel
theorem dX11_areDays_25 : decode cX11_areDays 25 = .ok (.iconst 1, 1) := by decide +kernel
theorem dX11_areDays_26 : decode cX11_areDays 26 = .ok (.goto 4, 3) := by decide +kernel
theorem dX11_areDays_29 : decode cX11_areDays 29 = .ok (.iconst 0, 1) := by decide +kernel
theorem dX11_areDays_30 : decode cX11_areDays 30 = .ok (.ireturn, 1) := by decide +kernel
theorem dX11_days_0 : decode cX11_days 0 = .ok (.aload_n 0, 1) := by decide +kernel
theorem dX11_days_1 : decode cX11_days 1 = .ok (.aload_n 0, 1) := by decide +kernel
theorem dX11_days_2 : decode cX11_days 2 = .ok (.getfield 261, 3) := by decide +kernel
theorem dX11_days_5 : decode cX11_days 5 = .ok (.ifCond .ne 7, 3) := by decide +kernel
theorem dX11_days_8 : decode cX11_days 8 = .ok (.iconst 0, 1) := by decide +kernel
theorem dX11_days_9 : decode cX11_days 9 = .ok (.goto 30, 3) := by decide +kernel
theorem dX11_days_12 : decode cX11_days 12 = .ok (.iload_n 1, 1) := by decide +kernel
theorem dX11_days_13 : decode cX11_days 13 = .ok (.iconst 1, 1) := by decide +kernel
theorem dX11_days_14 : decode cX11_days 14 = .ok (.bipush 60, 2) := by decide +kernel
theorem dX11_days_16 : decode cX11_days 16 = .ok (.invokestatic 208, 3) := by decide +kernel
theorem dX11_days_19 : decode cX11_days 19 = .ok (.ifCond .ne 7, 3) := by decide +kernel
theorem dX11_days_22 : decode cX11_days 22 = .ok (.iconst 1, 1) := by decide +kernel
theorem dX11_days_23 : decode cX11_days 23 = .ok (.goto 16, 3) := by decide +kernel
theorem dX11_days_26 : decode cX11_days 26 = .ok (.aload_n 0, 1) := by decide +kernel
theorem dX11_days_27 : decode cX11_days 27 = .ok (.iload_n 1, 1) := by decide +kernel
theorem dX11_days_28 : decode cX11_days 28 = .ok (.invokevirtual 375, 3) := by decide +kernel
theorem dX11_days_31 : decode cX11_days 31 = .ok (.ifCond .ne 7, 3) := by decide +kernel
theorem dX11_days_34 : decode cX11_days 34 = .ok (.iconst 4, 1) := by decide +kernel
theorem dX11_days_35 : decode cX11_days 35 = .ok (.goto 4, 3) := by decide +kernel
theorem dX11_days_38 : decode cX11_days 38 = .ok (.iconst (-1), 1) := by decide +kernel
theorem dX11_days_39 : decode cX11_days 39 = .ok (.invokevirtual 354, 3) := by decide +kernel
theorem dX11_days_42 : decode cX11_days 42 = .ok (.ifCond .eq 5, 3) := by decide +kernel
theorem dX11_days_45 : decode cX11_days 45 = .ok (.iconst (-1), 1) := by decide +kernel
theorem dX11_days_46 : decode cX11_days 46 = .ok (.ireturn, 1) := by decide +kernel
theorem dX11_days_47 : decode cX11_days 47 = .ok (.iconst 0, 1) := by decide +kernel
theorem dX11_days_48 : decode cX11_days 48 = .ok (.istore_n 2, 1) := by decide +kernel
theorem dX11_days_49 : decode cX11_days 49 = .ok (.iload_n 2, 1) := by decide +kernel
theorem dX11_days_50 : decode cX11_days 50 = .ok (.iload_n 1, 1) := by decide +kernel
theorem dX11_days_51 : decode cX11_days 51 = .ok (.if_icmp .ge 17, 3) := by decide +kernel
theorem dX11_days_54 : decode cX11_days 54 = .ok (.aload_n 0, 1) := by decide +kernel
theorem dX11_days_55 : decode cX11_days 55 = .ok (.invokevirtual 357, 3) := by decide +kernel
theorem dX11_days_58 : decode cX11_days 58 = .ok (.aload_n 0, 1) := by decide +kernel
theorem dX11_days_59 : decode cX11_days 59 = .ok (.invokevirtual 378, 3) := by decide +kernel
theorem dX11_days_62 : decode cX11_days 62 = .ok (.iinc 2 1, 3) := by decide +kernel
theorem dX11_days_65 : decode cX11_days 65 = .ok (.goto (-16), 3) := by decide +kernel
theorem dX11_days_68 : decode cX11_days 68 = .ok (.aload_n 0, 1) := by decide +kernel
theorem dX11_days_69 : decode cX11_days 69 = .ok (.getfield 64, 3) := by decide +kernel
theorem dX11_days_72 : decode cX11_days 72 = .ok (.bipush 8, 2) := by decide +kernel
theorem dX11_days_74 : decode cX11_days 74 = .ok (.iaload, 1) := by decide +kernel
theorem dX11_days_75 : decode cX11_days 75 = .ok (.ireturn, 1) := by decide +kernel
theorem dX11_spills_0 : decode cX11_spills 0 = .ok (.iload_n 1, 1) := by decide +kernel
theorem dX11_spills_1 : decode cX11_spills 1 = .ok (.iconst 0, 1) := by decide +kernel
theorem dX11_spills_2 : decode cX11_spills 2 = .ok (.bipush 9, 2) := by decide +kernel
theorem dX11_spills_4 : decode cX11_spills 4 = .ok (.invokestatic 208, 3) := by decide +kernel
theorem dX11_spills_7 : decode cX11_spills 7 = .ok (.ifCond .eq 11, 3) := by decide +kernel
theorem dX11_spills_10 : decode cX11_spills 10 = .ok (.iload_n 1, 1) := by decide +kernel
theorem dX11_spills_11 : decode cX11_spills 11 = .ok (.aload_n 0, 1) := by decide +kernel
theorem dX11_spills_12 : decode cX11_spills 12 = .ok (.getfield 381, 3) := by decide +kernel
theorem dX11_spills_15 : decode cX11_spills 15 = .ok (.if_icmp .ne 5, 3) := by decide +kernel
theorem dX11_spills_18 : decode cX11_spills 18 = .ok (.iconst 0, 1) := by decide +kernel
theorem dX11_spills_19 : decode cX11_spills 19 = .ok (.ireturn, 1) := by decide +kernel
theorem dX11_spills_20 : decode cX11_spills 20 = .ok (.aload_n 0, 1) := by decide +kernel
theorem dX11_spills_21 : decode cX11_spills 21 = .ok (.iload_n 1, 1) := by decide +kernel
theorem dX11_spills_22 : decode cX11_spills 22 = .ok (.putfield 381, 3) := by decide +kernel
theorem dX11_spills_25 : decode cX11_spills 25 = .ok (.iconst 1, 1) := by decide +kernel
theorem dX11_spills_26 : decode cX11_spills 26 = .ok (.ireturn, 1) := by decide +kernel
theorem dX11_draw_0 : decode cX11_draw 0 = .ok (.aload_n 0, 1) := by decide +kernel
theorem dX11_draw_1 : decode cX11_draw 1 = .ok (.aload_n 0, 1) := by decide +kernel
theorem dX11_draw_2 : decode cX11_draw 2 = .ok (.getfield 384, 3) := by decide +kernel
theorem dX11_draw_5 : decode cX11_draw 5 = .ok (.ldc2_w 388, 3) := by decide +kernel
theorem dX11_draw_8 : decode cX11_draw 8 = .ok (.lmul, 1) := by decide +kernel
theorem dX11_draw_9 : decode cX11_draw 9 = .ok (.ldc2_w 390, 3) := by decide +kernel
theorem dX11_draw_12 : decode cX11_draw 12 = .ok (.ladd, 1) := by decide +kernel
theorem dX11_draw_13 : decode cX11_draw 13 = .ok (.putfield 384, 3) := by decide +kernel
theorem dX11_draw_16 : decode cX11_draw 16 = .ok (.aload_n 0, 1) := by decide +kernel
theorem dX11_draw_17 : decode cX11_draw 17 = .ok (.getfield 384, 3) := by decide +kernel
theorem dX11_draw_20 : decode cX11_draw 20 = .ok (.bipush 33, 2) := by decide +kernel
theorem dX11_draw_22 : decode cX11_draw 22 = .ok (.lushr, 1) := by decide +kernel
theorem dX11_draw_23 : decode cX11_draw 23 = .ok (.iload_n 1, 1) := by decide +kernel
theorem dX11_draw_24 : decode cX11_draw 24 = .ok (.i2l, 1) := by decide +kernel
theorem dX11_draw_25 : decode cX11_draw 25 = .ok (.lrem, 1) := by decide +kernel
theorem dX11_draw_26 : decode cX11_draw 26 = .ok (.l2i, 1) := by decide +kernel
theorem dX11_draw_27 : decode cX11_draw 27 = .ok (.ireturn, 1) := by decide +kernel
theorem dX11_drawDay_0 : decode cX11_drawDay 0 = .ok (.aload_n 0, 1) := by decide +kernel
theorem dX11_drawDay_1 : decode cX11_drawDay 1 = .ok (.aload_n 0, 1) := by decide +kernel
theorem dX11_drawDay_2 : decode cX11_drawDay 2 = .ok (.getfield 261, 3) := by decide +kernel
theorem dX11_drawDay_5 : decode cX11_drawDay 5 = .ok (.invokevirtual 392, 3) := by decide +kernel
theorem dX11_drawDay_8 : decode cX11_drawDay 8 = .ok (.istore_n 1, 1) := by decide +kernel
theorem dX11_drawDay_9 : decode cX11_drawDay 9 = .ok (.aload_n 0, 1) := by decide +kernel
theorem dX11_drawDay_10 : decode cX11_drawDay 10 = .ok (.aload_n 0, 1) := by decide +kernel
theorem dX11_drawDay_11 : decode cX11_drawDay 11 = .ok (.getfield 261, 3) := by decide +kernel
theorem dX11_drawDay_14 : decode cX11_drawDay 14 = .ok (.invokevirtual 392, 3) := by decide +kernel
theorem dX11_drawDay_17 : decode cX11_drawDay 17 = .ok (.istore_n 2, 1) := by decide +kernel
theorem dX11_drawDay_18 : decode cX11_drawDay 18 = .ok (.aload_n 0, 1) := by decide +kernel
theorem dX11_drawDay_19 : decode cX11_drawDay 19 = .ok (.bipush 9, 2) := by decide +kernel
theorem dX11_drawDay_21 : decode cX11_drawDay 21 = .ok (.invokevirtual 392, 3) := by decide +kernel
theorem dX11_drawDay_24 : decode cX11_drawDay 24 = .ok (.iconst 1, 1) := by decide +kernel
theorem dX11_drawDay_25 : decode cX11_drawDay 25 = .ok (.iadd, 1) := by decide +kernel
theorem dX11_drawDay_26 : decode cX11_drawDay 26 = .ok (.istore_n 3, 1) := by decide +kernel
theorem dX11_drawDay_27 : decode cX11_drawDay 27 = .ok (.aload_n 0, 1) := by decide +kernel
theorem dX11_drawDay_28 : decode cX11_drawDay 28 = .ok (.bipush 9, 2) := by decide +kernel
theorem dX11_drawDay_30 : decode cX11_drawDay 30 = .ok (.invokevirtual 392, 3) := by decide +kernel
theorem dX11_drawDay_33 : decode cX11_drawDay 33 = .ok (.iconst 1, 1) := by decide +kernel
theorem dX11_drawDay_34 : decode cX11_drawDay 34 = .ok (.iadd, 1) := by decide +kernel
theorem dX11_drawDay_35 : decode cX11_drawDay 35 = .ok (.istore 4, 2) := by decide +kernel
theorem dX11_drawDay_37 : decode cX11_drawDay 37 = .ok (.aload_n 0, 1) := by decide +kernel
theorem dX11_drawDay_38 : decode cX11_drawDay 38 = .ok (.iload_n 1, 1) := by decide +kernel
theorem dX11_drawDay_39 : decode cX11_drawDay 39 = .ok (.iload_n 2, 1) := by decide +kernel
theorem dX11_drawDay_40 : decode cX11_drawDay 40 = .ok (.invokevirtual 335, 3) := by decide +kernel
theorem dX11_drawDay_43 : decode cX11_drawDay 43 = .ok (.iconst (-1), 1) := by decide +kernel
theorem dX11_drawDay_44 : decode cX11_drawDay 44 = .ok (.if_icmp .ne 13, 3) := by decide +kernel
theorem dX11_drawDay_47 : decode cX11_drawDay 47 = .ok (.aload_n 0, 1) := by decide +kernel
theorem dX11_drawDay_48 : decode cX11_drawDay 48 = .ok (.iload_n 1, 1) := by decide +kernel
theorem dX11_drawDay_49 : decode cX11_drawDay 49 = .ok (.iload_n 3, 1) := by decide +kernel
theorem dX11_drawDay_50 : decode cX11_drawDay 50 = .ok (.iload_n 2, 1) := by decide +kernel
theorem dX11_drawDay_51 : decode cX11_drawDay 51 = .ok (.iload 4, 2) := by decide +kernel
theorem dX11_drawDay_53 : decode cX11_drawDay 53 = .ok (.invokevirtual 360, 3) := by decide +kernel
theorem dX11_drawDay_56 : decode cX11_drawDay 56 = .ok (.pop, 1) := by decide +kernel
theorem dX11_drawDay_57 : decode cX11_drawDay 57 = .ok (.aload_n 0, 1) := by decide +kernel
theorem dX11_drawDay_58 : decode cX11_drawDay 58 = .ok (.bipush 10, 2) := by decide +kernel
theorem dX11_drawDay_60 : decode cX11_drawDay 60 = .ok (.invokevirtual 392, 3) := by decide +kernel
theorem dX11_drawDay_63 : decode cX11_drawDay 63 = .ok (.aload_n 0, 1) := by decide +kernel
theorem dX11_drawDay_64 : decode cX11_drawDay 64 = .ok (.getfield 381, 3) := by decide +kernel
theorem dX11_drawDay_67 : decode cX11_drawDay 67 = .ok (.if_icmp .ge 44, 3) := by decide +kernel
theorem dX11_drawDay_70 : decode cX11_drawDay 70 = .ok (.aload_n 0, 1) := by decide +kernel
theorem dX11_drawDay_71 : decode cX11_drawDay 71 = .ok (.aload_n 0, 1) := by decide +kernel
theorem dX11_drawDay_72 : decode cX11_drawDay 72 = .ok (.getfield 261, 3) := by decide +kernel
theorem dX11_drawDay_75 : decode cX11_drawDay 75 = .ok (.invokevirtual 392, 3) := by decide +kernel
theorem dX11_drawDay_78 : decode cX11_drawDay 78 = .ok (.istore 5, 2) := by decide +kernel
theorem dX11_drawDay_80 : decode cX11_drawDay 80 = .ok (.aload_n 0, 1) := by decide +kernel
theorem dX11_drawDay_81 : decode cX11_drawDay 81 = .ok (.getfield 64, 3) := by decide +kernel
theorem dX11_drawDay_84 : decode cX11_drawDay 84 = .ok (.bipush 6, 2) := by decide +kernel
theorem dX11_drawDay_86 : decode cX11_drawDay 86 = .ok (.dup2, 1) := by decide +kernel
theorem dX11_drawDay_87 : decode cX11_drawDay 87 = .ok (.iaload, 1) := by decide +kernel
theorem dX11_drawDay_88 : decode cX11_drawDay 88 = .ok (.aload_n 0, 1) := by decide +kernel
theorem dX11_drawDay_89 : decode cX11_drawDay 89 = .ok (.getfield 64, 3) := by decide +kernel
theorem dX11_drawDay_92 : decode cX11_drawDay 92 = .ok (.iconst 0, 1) := by decide +kernel
theorem dX11_drawDay_93 : decode cX11_drawDay 93 = .ok (.iload 5, 2) := by decide +kernel
theorem dX11_drawDay_95 : decode cX11_drawDay 95 = .ok (.iadd, 1) := by decide +kernel
theorem dX11_drawDay_96 : decode cX11_drawDay 96 = .ok (.iaload, 1) := by decide +kernel
theorem dX11_drawDay_97 : decode cX11_drawDay 97 = .ok (.iconst (-1), 1) := by decide +kernel
theorem dX11_drawDay_98 : decode cX11_drawDay 98 = .ok (.if_icmp .ne 7, 3) := by decide +kernel
theorem dX11_drawDay_101 : decode cX11_drawDay 101 = .ok (.iconst 0, 1) := by decide +kernel
theorem dX11_drawDay_102 : decode cX11_drawDay 102 = .ok (.goto 7, 3) := by decide +kernel
theorem dX11_drawDay_105 : decode cX11_drawDay 105 = .ok (.iconst 1, 1) := by decide +kernel
theorem dX11_drawDay_106 : decode cX11_drawDay 106 = .ok (.iload 5, 2) := by decide +kernel
theorem dX11_drawDay_108 : decode cX11_drawDay 108 = .ok (.ishl, 1) := by decide +kernel
theorem dX11_drawDay_109 : decode cX11_drawDay 109 = .ok (.ior, 1) := by decide +kernel
theorem dX11_drawDay_110 : decode cX11_drawDay 110 = .ok (.iastore, 1) := by decide +kernel
theorem dX11_drawDay_111 : decode cX11_drawDay 111 = .ok (.return_, 1) := by decide +kernel
theorem dX11_years_0 : decode cX11_years 0 = .ok (.aload_n 0, 1) := by decide +kernel
theorem dX11_years_1 : decode cX11_years 1 = .ok (.getfield 261, 3) := by decide +kernel
theorem dX11_years_4 : decode cX11_years 4 = .ok (.ifCond .eq 11, 3) := by decide +kernel
theorem dX11_years_7 : decode cX11_years 7 = .ok (.aload_n 0, 1) := by decide +kernel
theorem dX11_years_8 : decode cX11_years 8 = .ok (.iload_n 1, 1) := by decide +kernel
theorem dX11_years_9 : decode cX11_years 9 = .ok (.invokevirtual 375, 3) := by decide +kernel
theorem dX11_years_12 : decode cX11_years 12 = .ok (.ifCond .ne 5, 3) := by decide +kernel
theorem dX11_years_15 : decode cX11_years 15 = .ok (.iconst (-1), 1) := by decide +kernel
theorem dX11_years_16 : decode cX11_years 16 = .ok (.ireturn, 1) := by decide +kernel
theorem dX11_years_17 : decode cX11_years 17 = .ok (.aload_n 0, 1) := by decide +kernel
theorem dX11_years_18 : decode cX11_years 18 = .ok (.lload_n 2, 1) := by decide +kernel
theorem dX11_years_19 : decode cX11_years 19 = .ok (.putfield 384, 3) := by decide +kernel
theorem dX11_years_22 : decode cX11_years 22 = .ok (.iconst 0, 1) := by decide +kernel
theorem dX11_years_23 : decode cX11_years 23 = .ok (.istore 4, 2) := by decide +kernel
theorem dX11_years_25 : decode cX11_years 25 = .ok (.iload 4, 2) := by decide +kernel
theorem dX11_years_27 : decode cX11_years 27 = .ok (.iload_n 1, 1) := by decide +kernel
theorem dX11_years_28 : decode cX11_years 28 = .ok (.if_icmp .ge 21, 3) := by decide +kernel
theorem dX11_years_31 : decode cX11_years 31 = .ok (.aload_n 0, 1) := by decide +kernel
theorem dX11_years_32 : decode cX11_years 32 = .ok (.invokevirtual 357, 3) := by decide +kernel
theorem dX11_years_35 : decode cX11_years 35 = .ok (.aload_n 0, 1) := by decide +kernel
theorem dX11_years_36 : decode cX11_years 36 = .ok (.invokevirtual 395, 3) := by decide +kernel
theorem dX11_years_39 : decode cX11_years 39 = .ok (.aload_n 0, 1) := by decide +kernel
theorem dX11_years_40 : decode cX11_years 40 = .ok (.invokevirtual 378, 3) := by decide +kernel
theorem dX11_years_43 : decode cX11_years 43 = .ok (.iinc 4 1, 3) := by decide +kernel
theorem dX11_years_46 : decode cX11_years 46 = .ok (.goto (-21), 3) := by decide +kernel
theorem dX11_years_49 : decode cX11_years 49 = .ok (.aload_n 0, 1) := by decide +kernel
theorem dX11_years_50 : decode cX11_years 50 = .ok (.getfield 64, 3) := by decide +kernel
theorem dX11_years_53 : decode cX11_years 53 = .ok (.bipush 9, 2) := by decide +kernel
theorem dX11_years_55 : decode cX11_years 55 = .ok (.iaload, 1) := by decide +kernel
theorem dX11_years_56 : decode cX11_years 56 = .ok (.ireturn, 1) := by decide +kernel
theorem dX11_status_0 : decode cX11_status 0 = .ok (.iload_n 1, 1) := by decide +kernel
theorem dX11_status_1 : decode cX11_status 1 = .ok (.iconst 0, 1) := by decide +kernel
theorem dX11_status_2 : decode cX11_status 2 = .ok (.iconst 4, 1) := by decide +kernel
theorem dX11_status_3 : decode cX11_status 3 = .ok (.invokestatic 208, 3) := by decide +kernel
theorem dX11_status_6 : decode cX11_status 6 = .ok (.ifCond .eq 12, 3) := by decide +kernel
theorem dX11_status_9 : decode cX11_status 9 = .ok (.aload_n 0, 1) := by decide +kernel
theorem dX11_status_10 : decode cX11_status 10 = .ok (.getfield 67, 3) := by decide +kernel
theorem dX11_status_13 : decode cX11_status 13 = .ok (.iload_n 1, 1) := by decide +kernel
theorem dX11_status_14 : decode cX11_status 14 = .ok (.iaload, 1) := by decide +kernel
theorem dX11_status_15 : decode cX11_status 15 = .ok (.goto 4, 3) := by decide +kernel
theorem dX11_status_18 : decode cX11_status 18 = .ok (.iconst (-1), 1) := by decide +kernel
theorem dX11_status_19 : decode cX11_status 19 = .ok (.ireturn, 1) := by decide +kernel
theorem dX11_undo_0 : decode cX11_undo 0 = .ok (.aload_n 0, 1) := by decide +kernel
theorem dX11_undo_1 : decode cX11_undo 1 = .ok (.getfield 273, 3) := by decide +kernel
theorem dX11_undo_4 : decode cX11_undo 4 = .ok (.ifCond .ne 5, 3) := by decide +kernel
theorem dX11_undo_7 : decode cX11_undo 7 = .ok (.iconst (-1), 1) := by decide +kernel
theorem dX11_undo_8 : decode cX11_undo 8 = .ok (.ireturn, 1) := by decide +kernel
theorem dX11_undo_9 : decode cX11_undo 9 = .ok (.aload_n 0, 1) := by decide +kernel
theorem dX11_undo_10 : decode cX11_undo 10 = .ok (.dup, 1) := by decide +kernel
theorem dX11_undo_11 : decode cX11_undo 11 = .ok (.getfield 273, 3) := by decide +kernel
theorem dX11_undo_14 : decode cX11_undo 14 = .ok (.iconst 1, 1) := by decide +kernel
theorem dX11_undo_15 : decode cX11_undo 15 = .ok (.isub, 1) := by decide +kernel
theorem dX11_undo_16 : decode cX11_undo 16 = .ok (.putfield 273, 3) := by decide +kernel
theorem dX11_undo_19 : decode cX11_undo 19 = .ok (.iconst 0, 1) := by decide +kernel
theorem dX11_undo_20 : decode cX11_undo 20 = .ok (.istore_n 1, 1) := by decide +kernel
theorem dX11_undo_21 : decode cX11_undo 21 = .ok (.iload_n 1, 1) := by decide +kernel
theorem dX11_undo_22 : decode cX11_undo 22 = .ok (.sipush 131, 3) := by decide +kernel
theorem dX11_undo_25 : decode cX11_undo 25 = .ok (.if_icmp .ge 30, 3) := by decide +kernel
theorem dX11_undo_28 : decode cX11_undo 28 = .ok (.aload_n 0, 1) := by decide +kernel
theorem dX11_undo_29 : decode cX11_undo 29 = .ok (.getfield 64, 3) := by decide +kernel
theorem dX11_undo_32 : decode cX11_undo 32 = .ok (.iload_n 1, 1) := by decide +kernel
theorem dX11_undo_33 : decode cX11_undo 33 = .ok (.aload_n 0, 1) := by decide +kernel
theorem dX11_undo_34 : decode cX11_undo 34 = .ok (.getfield 74, 3) := by decide +kernel
theorem dX11_undo_37 : decode cX11_undo 37 = .ok (.sipush 131, 3) := by decide +kernel
theorem dX11_undo_40 : decode cX11_undo 40 = .ok (.aload_n 0, 1) := by decide +kernel
theorem dX11_undo_41 : decode cX11_undo 41 = .ok (.getfield 273, 3) := by decide +kernel
theorem dX11_undo_44 : decode cX11_undo 44 = .ok (.imul, 1) := by decide +kernel
theorem dX11_undo_45 : decode cX11_undo 45 = .ok (.iload_n 1, 1) := by decide +kernel
theorem dX11_undo_46 : decode cX11_undo 46 = .ok (.iadd, 1) := by decide +kernel
theorem dX11_undo_47 : decode cX11_undo 47 = .ok (.iaload, 1) := by decide +kernel
theorem dX11_undo_48 : decode cX11_undo 48 = .ok (.iastore, 1) := by decide +kernel
theorem dX11_undo_49 : decode cX11_undo 49 = .ok (.iinc 1 1, 3) := by decide +kernel
theorem dX11_undo_52 : decode cX11_undo 52 = .ok (.goto (-31), 3) := by decide +kernel
theorem dX11_undo_55 : decode cX11_undo 55 = .ok (.aload_n 0, 1) := by decide +kernel
theorem dX11_undo_56 : decode cX11_undo 56 = .ok (.getfield 273, 3) := by decide +kernel
theorem dX11_undo_59 : decode cX11_undo 59 = .ok (.ireturn, 1) := by decide +kernel
theorem dX11_log_0 : decode cX11_log 0 = .ok (.iload_n 1, 1) := by decide +kernel
theorem dX11_log_1 : decode cX11_log 1 = .ok (.iconst 0, 1) := by decide +kernel
theorem dX11_log_2 : decode cX11_log 2 = .ok (.aload_n 0, 1) := by decide +kernel
theorem dX11_log_3 : decode cX11_log 3 = .ok (.getfield 64, 3) := by decide +kernel
theorem dX11_log_6 : decode cX11_log 6 = .ok (.bipush 10, 2) := by decide +kernel
theorem dX11_log_8 : decode cX11_log 8 = .ok (.iaload, 1) := by decide +kernel
theorem dX11_log_9 : decode cX11_log 9 = .ok (.iconst 1, 1) := by decide +kernel
theorem dX11_log_10 : decode cX11_log 10 = .ok (.isub, 1) := by decide +kernel
theorem dX11_log_11 : decode cX11_log 11 = .ok (.invokestatic 208, 3) := by decide +kernel
theorem dX11_log_14 : decode cX11_log 14 = .ok (.ifCond .eq 38, 3) := by decide +kernel
theorem dX11_log_17 : decode cX11_log 17 = .ok (.iload_n 2, 1) := by decide +kernel
theorem dX11_log_18 : decode cX11_log 18 = .ok (.iconst 0, 1) := by decide +kernel
theorem dX11_log_19 : decode cX11_log 19 = .ok (.iconst 1, 1) := by decide +kernel
theorem dX11_log_20 : decode cX11_log 20 = .ok (.invokestatic 208, 3) := by decide +kernel
theorem dX11_log_23 : decode cX11_log 23 = .ok (.ifCond .eq 29, 3) := by decide +kernel
theorem dX11_log_26 : decode cX11_log 26 = .ok (.aload_n 0, 1) := by decide +kernel
theorem dX11_log_27 : decode cX11_log 27 = .ok (.getfield 64, 3) := by decide +kernel
theorem dX11_log_30 : decode cX11_log 30 = .ok (.bipush 11, 2) := by decide +kernel
theorem dX11_log_32 : decode cX11_log 32 = .ok (.iconst 2, 1) := by decide +kernel
theorem dX11_log_33 : decode cX11_log 33 = .ok (.aload_n 0, 1) := by decide +kernel
theorem dX11_log_34 : decode cX11_log 34 = .ok (.getfield 64, 3) := by decide +kernel
theorem dX11_log_37 : decode cX11_log 37 = .ok (.bipush 10, 2) := by decide +kernel
theorem dX11_log_39 : decode cX11_log 39 = .ok (.iaload, 1) := by decide +kernel
theorem dX11_log_40 : decode cX11_log 40 = .ok (.iconst 1, 1) := by decide +kernel
theorem dX11_log_41 : decode cX11_log 41 = .ok (.isub, 1) := by decide +kernel
theorem dX11_log_42 : decode cX11_log 42 = .ok (.iload_n 1, 1) := by decide +kernel
theorem dX11_log_43 : decode cX11_log 43 = .ok (.isub, 1) := by decide +kernel
theorem dX11_log_44 : decode cX11_log 44 = .ok (.imul, 1) := by decide +kernel
theorem dX11_log_45 : decode cX11_log 45 = .ok (.iadd, 1) := by decide +kernel
theorem dX11_log_46 : decode cX11_log 46 = .ok (.iload_n 2, 1) := by decide +kernel
theorem dX11_log_47 : decode cX11_log 47 = .ok (.iadd, 1) := by decide +kernel
theorem dX11_log_48 : decode cX11_log 48 = .ok (.iaload, 1) := by decide +kernel
theorem dX11_log_49 : decode cX11_log 49 = .ok (.goto 4, 3) := by decide +kernel
theorem dX11_log_52 : decode cX11_log 52 = .ok (.iconst (-1), 1) := by decide +kernel
theorem dX11_log_53 : decode cX11_log 53 = .ok (.ireturn, 1) := by decide +kernel
theorem dX11_lands_0 : decode cX11_lands 0 = .ok (.aload_n 0, 1) := by decide +kernel
theorem dX11_lands_1 : decode cX11_lands 1 = .ok (.iload_n 1, 1) := by decide +kernel
theorem dX11_lands_2 : decode cX11_lands 2 = .ok (.invokevirtual 325, 3) := by decide +kernel
theorem dX11_lands_5 : decode cX11_lands 5 = .ok (.ifCond .eq 28, 3) := by decide +kernel
theorem dX11_lands_8 : decode cX11_lands 8 = .ok (.aload_n 0, 1) := by decide +kernel
theorem dX11_lands_9 : decode cX11_lands 9 = .ok (.iload_n 2, 1) := by decide +kernel
theorem dX11_lands_10 : decode cX11_lands 10 = .ok (.invokevirtual 328, 3) := by decide +kernel
theorem dX11_lands_13 : decode cX11_lands 13 = .ok (.ifCond .eq 20, 3) := by decide +kernel
theorem dX11_lands_16 : decode cX11_lands 16 = .ok (.iload_n 3, 1) := by decide +kernel
theorem dX11_lands_17 : decode cX11_lands 17 = .ok (.invokestatic 338, 3) := by decide +kernel
theorem dX11_lands_20 : decode cX11_lands 20 = .ok (.ifCond .eq 13, 3) := by decide +kernel
theorem dX11_lands_23 : decode cX11_lands 23 = .ok (.aload_n 0, 1) := by decide +kernel
theorem dX11_lands_24 : decode cX11_lands 24 = .ok (.iload_n 1, 1) := by decide +kernel
theorem dX11_lands_25 : decode cX11_lands 25 = .ok (.iload_n 2, 1) := by decide +kernel
theorem dX11_lands_26 : decode cX11_lands 26 = .ok (.iload_n 3, 1) := by decide +kernel
theorem dX11_lands_27 : decode cX11_lands 27 = .ok (.invokevirtual 341, 3) := by decide +kernel
theorem dX11_lands_30 : decode cX11_lands 30 = .ok (.goto 4, 3) := by decide +kernel
theorem dX11_lands_33 : decode cX11_lands 33 = .ok (.iconst (-1), 1) := by decide +kernel
theorem dX11_lands_34 : decode cX11_lands 34 = .ok (.ireturn, 1) := by decide +kernel
theorem dX11_aimOf_0 : decode cX11_aimOf 0 = .ok (.iconst (-1), 1) := by decide +kernel
theorem dX11_aimOf_1 : decode cX11_aimOf 1 = .ok (.istore_n 3, 1) := by decide +kernel
theorem dX11_aimOf_2 : decode cX11_aimOf 2 = .ok (.iconst 1, 1) := by decide +kernel
theorem dX11_aimOf_3 : decode cX11_aimOf 3 = .ok (.istore 4, 2) := by decide +kernel
theorem dX11_aimOf_5 : decode cX11_aimOf 5 = .ok (.iload 4, 2) := by decide +kernel
theorem dX11_aimOf_7 : decode cX11_aimOf 7 = .ok (.bipush 9, 2) := by decide +kernel
theorem dX11_aimOf_9 : decode cX11_aimOf 9 = .ok (.if_icmp .gt 60, 3) := by decide +kernel
theorem dX11_aimOf_12 : decode cX11_aimOf 12 = .ok (.aload_n 0, 1) := by decide +kernel
theorem dX11_aimOf_13 : decode cX11_aimOf 13 = .ok (.iload_n 1, 1) := by decide +kernel
theorem dX11_aimOf_14 : decode cX11_aimOf 14 = .ok (.iload_n 2, 1) := by decide +kernel
theorem dX11_aimOf_15 : decode cX11_aimOf 15 = .ok (.iload 4, 2) := by decide +kernel
theorem dX11_aimOf_17 : decode cX11_aimOf 17 = .ok (.invokevirtual 341, 3) := by decide +kernel
theorem dX11_aimOf_20 : decode cX11_aimOf 20 = .ok (.istore 5, 2) := by decide +kernel
theorem dX11_aimOf_22 : decode cX11_aimOf 22 = .ok (.aload_n 0, 1) := by decide +kernel
theorem dX11_aimOf_23 : decode cX11_aimOf 23 = .ok (.iload 5, 2) := by decide +kernel
theorem dX11_aimOf_25 : decode cX11_aimOf 25 = .ok (.invokevirtual 304, 3) := by decide +kernel
theorem dX11_aimOf_28 : decode cX11_aimOf 28 = .ok (.ifCond .ne 33, 3) := by decide +kernel
theorem dX11_aimOf_31 : decode cX11_aimOf 31 = .ok (.iload_n 3, 1) := by decide +kernel
theorem dX11_aimOf_32 : decode cX11_aimOf 32 = .ok (.iconst (-1), 1) := by decide +kernel
theorem dX11_aimOf_33 : decode cX11_aimOf 33 = .ok (.if_icmp .eq 23, 3) := by decide +kernel
theorem dX11_aimOf_36 : decode cX11_aimOf 36 = .ok (.aload_n 0, 1) := by decide +kernel
theorem dX11_aimOf_37 : decode cX11_aimOf 37 = .ok (.iload 5, 2) := by decide +kernel
theorem dX11_aimOf_39 : decode cX11_aimOf 39 = .ok (.invokevirtual 307, 3) := by decide +kernel
theorem dX11_aimOf_42 : decode cX11_aimOf 42 = .ok (.aload_n 0, 1) := by decide +kernel
theorem dX11_aimOf_43 : decode cX11_aimOf 43 = .ok (.aload_n 0, 1) := by decide +kernel
theorem dX11_aimOf_44 : decode cX11_aimOf 44 = .ok (.iload_n 1, 1) := by decide +kernel
theorem dX11_aimOf_45 : decode cX11_aimOf 45 = .ok (.iload_n 2, 1) := by decide +kernel
theorem dX11_aimOf_46 : decode cX11_aimOf 46 = .ok (.iload_n 3, 1) := by decide +kernel
theorem dX11_aimOf_47 : decode cX11_aimOf 47 = .ok (.invokevirtual 341, 3) := by decide +kernel
theorem dX11_aimOf_50 : decode cX11_aimOf 50 = .ok (.invokevirtual 307, 3) := by decide +kernel
theorem dX11_aimOf_53 : decode cX11_aimOf 53 = .ok (.if_icmp .ge 8, 3) := by decide +kernel
theorem dX11_aimOf_56 : decode cX11_aimOf 56 = .ok (.iload 4, 2) := by decide +kernel
theorem dX11_aimOf_58 : decode cX11_aimOf 58 = .ok (.goto 4, 3) := by decide +kernel
theorem dX11_aimOf_61 : decode cX11_aimOf 61 = .ok (.iload_n 3, 1) := by decide +kernel
theorem dX11_aimOf_62 : decode cX11_aimOf 62 = .ok (.istore_n 3, 1) := by decide +kernel
theorem dX11_aimOf_63 : decode cX11_aimOf 63 = .ok (.iinc 4 1, 3) := by decide +kernel
theorem dX11_aimOf_66 : decode cX11_aimOf 66 = .ok (.goto (-61), 3) := by decide +kernel
theorem dX11_aimOf_69 : decode cX11_aimOf 69 = .ok (.iload_n 3, 1) := by decide +kernel
theorem dX11_aimOf_70 : decode cX11_aimOf 70 = .ok (.ireturn, 1) := by decide +kernel
theorem dX11_aim_0 : decode cX11_aim 0 = .ok (.aload_n 0, 1) := by decide +kernel
theorem dX11_aim_1 : decode cX11_aim 1 = .ok (.iload_n 1, 1) := by decide +kernel
theorem dX11_aim_2 : decode cX11_aim 2 = .ok (.invokevirtual 325, 3) := by decide +kernel
theorem dX11_aim_5 : decode cX11_aim 5 = .ok (.ifCond .eq 20, 3) := by decide +kernel
theorem dX11_aim_8 : decode cX11_aim 8 = .ok (.aload_n 0, 1) := by decide +kernel
theorem dX11_aim_9 : decode cX11_aim 9 = .ok (.iload_n 2, 1) := by decide +kernel
theorem dX11_aim_10 : decode cX11_aim 10 = .ok (.invokevirtual 328, 3) := by decide +kernel
theorem dX11_aim_13 : decode cX11_aim 13 = .ok (.ifCond .eq 12, 3) := by decide +kernel
theorem dX11_aim_16 : decode cX11_aim 16 = .ok (.aload_n 0, 1) := by decide +kernel
theorem dX11_aim_17 : decode cX11_aim 17 = .ok (.iload_n 1, 1) := by decide +kernel
theorem dX11_aim_18 : decode cX11_aim 18 = .ok (.iload_n 2, 1) := by decide +kernel
theorem dX11_aim_19 : decode cX11_aim 19 = .ok (.invokevirtual 398, 3) := by decide +kernel
theorem dX11_aim_22 : decode cX11_aim 22 = .ok (.goto 4, 3) := by decide +kernel
theorem dX11_aim_25 : decode cX11_aim 25 = .ok (.iconst (-1), 1) := by decide +kernel
theorem dX11_aim_26 : decode cX11_aim 26 = .ok (.ireturn, 1) := by decide +kernel
theorem dX11_wins_0 : decode cX11_wins 0 = .ok (.aload_n 0, 1) := by decide +kernel
theorem dX11_wins_1 : decode cX11_wins 1 = .ok (.iload_n 1, 1) := by decide +kernel
theorem dX11_wins_2 : decode cX11_wins 2 = .ok (.iload_n 2, 1) := by decide +kernel
theorem dX11_wins_3 : decode cX11_wins 3 = .ok (.iload_n 3, 1) := by decide +kernel
theorem dX11_wins_4 : decode cX11_wins 4 = .ok (.iload 4, 2) := by decide +kernel
theorem dX11_wins_6 : decode cX11_wins 6 = .ok (.invokevirtual 350, 3) := by decide +kernel
theorem dX11_wins_9 : decode cX11_wins 9 = .ok (.iconst (-1), 1) := by decide +kernel
theorem dX11_wins_10 : decode cX11_wins 10 = .ok (.if_icmp .ne 23, 3) := by decide +kernel
theorem dX11_wins_13 : decode cX11_wins 13 = .ok (.aload_n 0, 1) := by decide +kernel
theorem dX11_wins_14 : decode cX11_wins 14 = .ok (.aload_n 0, 1) := by decide +kernel
theorem dX11_wins_15 : decode cX11_wins 15 = .ok (.iload_n 1, 1) := by decide +kernel
theorem dX11_wins_16 : decode cX11_wins 16 = .ok (.iload_n 2, 1) := by decide +kernel
theorem dX11_wins_17 : decode cX11_wins 17 = .ok (.invokevirtual 344, 3) := by decide +kernel
theorem dX11_wins_20 : decode cX11_wins 20 = .ok (.aload_n 0, 1) := by decide +kernel
theorem dX11_wins_21 : decode cX11_wins 21 = .ok (.iload_n 3, 1) := by decide +kernel
theorem dX11_wins_22 : decode cX11_wins 22 = .ok (.iload 4, 2) := by decide +kernel
theorem dX11_wins_24 : decode cX11_wins 24 = .ok (.invokevirtual 344, 3) := by decide +kernel
theorem dX11_wins_27 : decode cX11_wins 27 = .ok (.invokevirtual 347, 3) := by decide +kernel
theorem dX11_wins_30 : decode cX11_wins 30 = .ok (.goto 6, 3) := by decide +kernel
theorem dX11_wins_33 : decode cX11_wins 33 = .ok (.ldc_w 331, 3) := by decide +kernel
theorem dX11_wins_36 : decode cX11_wins 36 = .ok (.ireturn, 1) := by decide +kernel
theorem dX11_weather_0 : decode cX11_weather 0 = .ok (.aload_n 0, 1) := by decide +kernel
theorem dX11_weather_1 : decode cX11_weather 1 = .ok (.getfield 261, 3) := by decide +kernel
theorem dX11_weather_4 : decode cX11_weather 4 = .ok (.ifCond .le 18, 3) := by decide +kernel
theorem dX11_weather_7 : decode cX11_weather 7 = .ok (.iload_n 1, 1) := by decide +kernel
theorem dX11_weather_8 : decode cX11_weather 8 = .ok (.invokestatic 401, 3) := by decide +kernel
theorem dX11_weather_11 : decode cX11_weather 11 = .ok (.ifCond .eq 11, 3) := by decide +kernel
theorem dX11_weather_14 : decode cX11_weather 14 = .ok (.aload_n 0, 1) := by decide +kernel
theorem dX11_weather_15 : decode cX11_weather 15 = .ok (.iload_n 1, 1) := by decide +kernel
theorem dX11_weather_16 : decode cX11_weather 16 = .ok (.invokevirtual 319, 3) := by decide +kernel
theorem dX11_weather_19 : decode cX11_weather 19 = .ok (.goto 6, 3) := by decide +kernel
theorem dX11_weather_22 : decode cX11_weather 22 = .ok (.ldc_w 331, 3) := by decide +kernel
theorem dX11_weather_25 : decode cX11_weather 25 = .ok (.ireturn, 1) := by decide +kernel
theorem dX11_spell_0 : decode cX11_spell 0 = .ok (.aload_n 0, 1) := by decide +kernel
theorem dX11_spell_1 : decode cX11_spell 1 = .ok (.getfield 261, 3) := by decide +kernel
theorem dX11_spell_4 : decode cX11_spell 4 = .ok (.ifCond .le 26, 3) := by decide +kernel
theorem dX11_spell_7 : decode cX11_spell 7 = .ok (.iload_n 1, 1) := by decide +kernel
theorem dX11_spell_8 : decode cX11_spell 8 = .ok (.invokestatic 401, 3) := by decide +kernel
theorem dX11_spell_11 : decode cX11_spell 11 = .ok (.ifCond .eq 19, 3) := by decide +kernel
theorem dX11_spell_14 : decode cX11_spell 14 = .ok (.iload_n 2, 1) := by decide +kernel
theorem dX11_spell_15 : decode cX11_spell 15 = .ok (.invokestatic 404, 3) := by decide +kernel
theorem dX11_spell_18 : decode cX11_spell 18 = .ok (.ifCond .eq 12, 3) := by decide +kernel
theorem dX11_spell_21 : decode cX11_spell 21 = .ok (.aload_n 0, 1) := by decide +kernel
theorem dX11_spell_22 : decode cX11_spell 22 = .ok (.iload_n 1, 1) := by decide +kernel
theorem dX11_spell_23 : decode cX11_spell 23 = .ok (.iload_n 2, 1) := by decide +kernel
theorem dX11_spell_24 : decode cX11_spell 24 = .ok (.invokevirtual 313, 3) := by decide +kernel
theorem dX11_spell_27 : decode cX11_spell 27 = .ok (.goto 4, 3) := by decide +kernel
theorem dX11_spell_30 : decode cX11_spell 30 = .ok (.iconst (-1), 1) := by decide +kernel
theorem dX11_spell_31 : decode cX11_spell 31 = .ok (.ireturn, 1) := by decide +kernel
theorem dX11_tryOwners_0 : decode cX11_tryOwners 0 = .ok (.aload_n 0, 1) := by decide +kernel
theorem dX11_tryOwners_1 : decode cX11_tryOwners 1 = .ok (.getfield 407, 3) := by decide +kernel
theorem dX11_tryOwners_4 : decode cX11_tryOwners 4 = .ok (.iconst (-1), 1) := by decide +kernel
theorem dX11_tryOwners_5 : decode cX11_tryOwners 5 = .ok (.if_icmp .eq 12, 3) := by decide +kernel
theorem dX11_tryOwners_8 : decode cX11_tryOwners 8 = .ok (.iload_n 3, 1) := by decide +kernel
theorem dX11_tryOwners_9 : decode cX11_tryOwners 9 = .ok (.aload_n 0, 1) := by decide +kernel
theorem dX11_tryOwners_10 : decode cX11_tryOwners 10 = .ok (.getfield 410, 3) := by decide +kernel
theorem dX11_tryOwners_13 : decode cX11_tryOwners 13 = .ok (.if_icmp .le 4, 3) := by decide +kernel
theorem dX11_tryOwners_16 : decode cX11_tryOwners 16 = .ok (.return_, 1) := by decide +kernel
theorem dX11_tryOwners_17 : decode cX11_tryOwners 17 = .ok (.iload_n 1, 1) := by decide +kernel
theorem dX11_tryOwners_18 : decode cX11_tryOwners 18 = .ok (.aload_n 0, 1) := by decide +kernel
theorem dX11_tryOwners_19 : decode cX11_tryOwners 19 = .ok (.getfield 261, 3) := by decide +kernel
theorem dX11_tryOwners_22 : decode cX11_tryOwners 22 = .ok (.if_icmp .ne 65, 3) := by decide +kernel
theorem dX11_tryOwners_25 : decode cX11_tryOwners 25 = .ok (.aload_n 0, 1) := by decide +kernel
theorem dX11_tryOwners_26 : decode cX11_tryOwners 26 = .ok (.invokevirtual 369, 3) := by decide +kernel
theorem dX11_tryOwners_29 : decode cX11_tryOwners 29 = .ok (.iconst 1, 1) := by decide +kernel
theorem dX11_tryOwners_30 : decode cX11_tryOwners 30 = .ok (.aload_n 0, 1) := by decide +kernel
theorem dX11_tryOwners_31 : decode cX11_tryOwners 31 = .ok (.getfield 264, 3) := by decide +kernel
theorem dX11_tryOwners_34 : decode cX11_tryOwners 34 = .ok (.ishl, 1) := by decide +kernel
theorem dX11_tryOwners_35 : decode cX11_tryOwners 35 = .ok (.iconst 1, 1) := by decide +kernel
theorem dX11_tryOwners_36 : decode cX11_tryOwners 36 = .ok (.isub, 1) := by decide +kernel
theorem dX11_tryOwners_37 : decode cX11_tryOwners 37 = .ok (.if_icmp .ne 7, 3) := by decide +kernel
theorem dX11_tryOwners_40 : decode cX11_tryOwners 40 = .ok (.iconst 1, 1) := by decide +kernel
theorem dX11_tryOwners_41 : decode cX11_tryOwners 41 = .ok (.goto 4, 3) := by decide +kernel
theorem dX11_tryOwners_44 : decode cX11_tryOwners 44 = .ok (.iconst 0, 1) := by decide +kernel
theorem dX11_tryOwners_45 : decode cX11_tryOwners 45 = .ok (.istore 4, 2) := by decide +kernel
theorem dX11_tryOwners_47 : decode cX11_tryOwners 47 = .ok (.iload 4, 2) := by decide +kernel
theorem dX11_tryOwners_49 : decode cX11_tryOwners 49 = .ok (.ifCond .eq 37, 3) := by decide +kernel
theorem dX11_tryOwners_52 : decode cX11_tryOwners 52 = .ok (.aload_n 0, 1) := by decide +kernel
theorem dX11_tryOwners_53 : decode cX11_tryOwners 53 = .ok (.getfield 407, 3) := by decide +kernel
theorem dX11_tryOwners_56 : decode cX11_tryOwners 56 = .ok (.iconst (-1), 1) := by decide +kernel
theorem dX11_tryOwners_57 : decode cX11_tryOwners 57 = .ok (.if_icmp .eq 19, 3) := by decide +kernel
theorem dX11_tryOwners_60 : decode cX11_tryOwners 60 = .ok (.iload_n 3, 1) := by decide +kernel
theorem dX11_tryOwners_61 : decode cX11_tryOwners 61 = .ok (.aload_n 0, 1) := by decide +kernel
theorem dX11_tryOwners_62 : decode cX11_tryOwners 62 = .ok (.getfield 410, 3) := by decide +kernel
theorem dX11_tryOwners_65 : decode cX11_tryOwners 65 = .ok (.if_icmp .lt 11, 3) := by decide +kernel
theorem dX11_tryOwners_68 : decode cX11_tryOwners 68 = .ok (.iload_n 2, 1) := by decide +kernel
theorem dX11_tryOwners_69 : decode cX11_tryOwners 69 = .ok (.aload_n 0, 1) := by decide +kernel
theorem dX11_tryOwners_70 : decode cX11_tryOwners 70 = .ok (.getfield 407, 3) := by decide +kernel
theorem dX11_tryOwners_73 : decode cX11_tryOwners 73 = .ok (.if_icmp .ge 13, 3) := by decide +kernel
theorem dX11_tryOwners_76 : decode cX11_tryOwners 76 = .ok (.aload_n 0, 1) := by decide +kernel
theorem dX11_tryOwners_77 : decode cX11_tryOwners 77 = .ok (.iload_n 2, 1) := by decide +kernel
theorem dX11_tryOwners_78 : decode cX11_tryOwners 78 = .ok (.putfield 407, 3) := by decide +kernel
theorem dX11_tryOwners_81 : decode cX11_tryOwners 81 = .ok (.aload_n 0, 1) := by decide +kernel
theorem dX11_tryOwners_82 : decode cX11_tryOwners 82 = .ok (.iload_n 3, 1) := by decide +kernel
theorem dX11_tryOwners_83 : decode cX11_tryOwners 83 = .ok (.putfield 410, 3) := by decide +kernel
theorem dX11_tryOwners_86 : decode cX11_tryOwners 86 = .ok (.return_, 1) := by decide +kernel
theorem dX11_tryOwners_87 : decode cX11_tryOwners 87 = .ok (.aload_n 0, 1) := by decide +kernel
theorem dX11_tryOwners_88 : decode cX11_tryOwners 88 = .ok (.getfield 64, 3) := by decide +kernel
theorem dX11_tryOwners_91 : decode cX11_tryOwners 91 = .ok (.iconst 0, 1) := by decide +kernel
theorem dX11_tryOwners_92 : decode cX11_tryOwners 92 = .ok (.iload_n 1, 1) := by decide +kernel
theorem dX11_tryOwners_93 : decode cX11_tryOwners 93 = .ok (.iadd, 1) := by decide +kernel
theorem dX11_tryOwners_94 : decode cX11_tryOwners 94 = .ok (.iaload, 1) := by decide +kernel
theorem dX11_tryOwners_95 : decode cX11_tryOwners 95 = .ok (.istore 4, 2) := by decide +kernel
theorem dX11_tryOwners_97 : decode cX11_tryOwners 97 = .ok (.aload_n 0, 1) := by decide +kernel
theorem dX11_tryOwners_98 : decode cX11_tryOwners 98 = .ok (.iload_n 1, 1) := by decide +kernel
theorem dX11_tryOwners_99 : decode cX11_tryOwners 99 = .ok (.invokevirtual 332, 3) := by decide +kernel
theorem dX11_tryOwners_102 : decode cX11_tryOwners 102 = .ok (.ifCond .ne 30, 3) := by decide +kernel
theorem dX11_tryOwners_105 : decode cX11_tryOwners 105 = .ok (.aload_n 0, 1) := by decide +kernel
theorem dX11_tryOwners_106 : decode cX11_tryOwners 106 = .ok (.iload_n 1, 1) := by decide +kernel
theorem dX11_tryOwners_107 : decode cX11_tryOwners 107 = .ok (.iconst 1, 1) := by decide +kernel
theorem dX11_tryOwners_108 : decode cX11_tryOwners 108 = .ok (.iadd, 1) := by decide +kernel
theorem dX11_tryOwners_109 : decode cX11_tryOwners 109 = .ok (.bipush 10, 2) := by decide +kernel
theorem dX11_tryOwners_111 : decode cX11_tryOwners 111 = .ok (.iload_n 2, 1) := by decide +kernel
theorem dX11_tryOwners_112 : decode cX11_tryOwners 112 = .ok (.imul, 1) := by decide +kernel
theorem dX11_tryOwners_113 : decode cX11_tryOwners 113 = .ok (.iload 4, 2) := by decide +kernel
theorem dX11_tryOwners_115 : decode cX11_tryOwners 115 = .ok (.iconst (-1), 1) := by decide +kernel
theorem dX11_tryOwners_116 : decode cX11_tryOwners 116 = .ok (.if_icmp .ne 8, 3) := by decide +kernel
theorem dX11_tryOwners_119 : decode cX11_tryOwners 119 = .ok (.bipush 9, 2) := by decide +kernel
theorem dX11_tryOwners_121 : decode cX11_tryOwners 121 = .ok (.goto 5, 3) := by decide +kernel
theorem dX11_tryOwners_124 : decode cX11_tryOwners 124 = .ok (.iload 4, 2) := by decide +kernel
theorem dX11_tryOwners_126 : decode cX11_tryOwners 126 = .ok (.iadd, 1) := by decide +kernel
theorem dX11_tryOwners_127 : decode cX11_tryOwners 127 = .ok (.iload_n 3, 1) := by decide +kernel
theorem dX11_tryOwners_128 : decode cX11_tryOwners 128 = .ok (.invokevirtual 413, 3) := by decide +kernel
theorem dX11_tryOwners_131 : decode cX11_tryOwners 131 = .ok (.return_, 1) := by decide +kernel
theorem dX11_tryOwners_132 : decode cX11_tryOwners 132 = .ok (.iconst 0, 1) := by decide +kernel
theorem dX11_tryOwners_133 : decode cX11_tryOwners 133 = .ok (.istore 5, 2) := by decide +kernel
theorem dX11_tryOwners_135 : decode cX11_tryOwners 135 = .ok (.iload 5, 2) := by decide +kernel
theorem dX11_tryOwners_137 : decode cX11_tryOwners 137 = .ok (.aload_n 0, 1) := by decide +kernel
theorem dX11_tryOwners_138 : decode cX11_tryOwners 138 = .ok (.getfield 258, 3) := by decide +kernel
theorem dX11_tryOwners_141 : decode cX11_tryOwners 141 = .ok (.if_icmp .ge 47, 3) := by decide +kernel
theorem dX11_tryOwners_144 : decode cX11_tryOwners 144 = .ok (.aload_n 0, 1) := by decide +kernel
theorem dX11_tryOwners_145 : decode cX11_tryOwners 145 = .ok (.getfield 64, 3) := by decide +kernel
theorem dX11_tryOwners_148 : decode cX11_tryOwners 148 = .ok (.iconst 0, 1) := by decide +kernel
theorem dX11_tryOwners_149 : decode cX11_tryOwners 149 = .ok (.iload_n 1, 1) := by decide +kernel
theorem dX11_tryOwners_150 : decode cX11_tryOwners 150 = .ok (.iadd, 1) := by decide +kernel
theorem dX11_tryOwners_151 : decode cX11_tryOwners 151 = .ok (.iload 5, 2) := by decide +kernel
theorem dX11_tryOwners_153 : decode cX11_tryOwners 153 = .ok (.iastore, 1) := by decide +kernel
theorem dX11_tryOwners_154 : decode cX11_tryOwners 154 = .ok (.aload_n 0, 1) := by decide +kernel
theorem dX11_tryOwners_155 : decode cX11_tryOwners 155 = .ok (.iload_n 1, 1) := by decide +kernel
theorem dX11_tryOwners_156 : decode cX11_tryOwners 156 = .ok (.iconst 1, 1) := by decide +kernel
theorem dX11_tryOwners_157 : decode cX11_tryOwners 157 = .ok (.iadd, 1) := by decide +kernel
theorem dX11_tryOwners_158 : decode cX11_tryOwners 158 = .ok (.bipush 10, 2) := by decide +kernel
theorem dX11_tryOwners_160 : decode cX11_tryOwners 160 = .ok (.iload_n 2, 1) := by decide +kernel
theorem dX11_tryOwners_161 : decode cX11_tryOwners 161 = .ok (.imul, 1) := by decide +kernel
theorem dX11_tryOwners_162 : decode cX11_tryOwners 162 = .ok (.iload 5, 2) := by decide +kernel
theorem dX11_tryOwners_164 : decode cX11_tryOwners 164 = .ok (.iadd, 1) := by decide +kernel
theorem dX11_tryOwners_165 : decode cX11_tryOwners 165 = .ok (.iload 5, 2) := by decide +kernel
theorem dX11_tryOwners_167 : decode cX11_tryOwners 167 = .ok (.iload 4, 2) := by decide +kernel
theorem dX11_tryOwners_169 : decode cX11_tryOwners 169 = .ok (.if_icmp .ne 7, 3) := by decide +kernel
theorem dX11_tryOwners_172 : decode cX11_tryOwners 172 = .ok (.iload_n 3, 1) := by decide +kernel
theorem dX11_tryOwners_173 : decode cX11_tryOwners 173 = .ok (.goto 6, 3) := by decide +kernel
theorem dX11_tryOwners_176 : decode cX11_tryOwners 176 = .ok (.iload_n 3, 1) := by decide +kernel
theorem dX11_tryOwners_177 : decode cX11_tryOwners 177 = .ok (.iconst 1, 1) := by decide +kernel
theorem dX11_tryOwners_178 : decode cX11_tryOwners 178 = .ok (.iadd, 1) := by decide +kernel
theorem dX11_tryOwners_179 : decode cX11_tryOwners 179 = .ok (.invokevirtual 413, 3) := by decide +kernel
theorem dX11_tryOwners_182 : decode cX11_tryOwners 182 = .ok (.iinc 5 1, 3) := by decide +kernel
theorem dX11_tryOwners_185 : decode cX11_tryOwners 185 = .ok (.goto (-50), 3) := by decide +kernel
theorem dX11_tryOwners_188 : decode cX11_tryOwners 188 = .ok (.aload_n 0, 1) := by decide +kernel
theorem dX11_tryOwners_189 : decode cX11_tryOwners 189 = .ok (.getfield 64, 3) := by decide +kernel
theorem dX11_tryOwners_192 : decode cX11_tryOwners 192 = .ok (.iconst 0, 1) := by decide +kernel
theorem dX11_tryOwners_193 : decode cX11_tryOwners 193 = .ok (.iload_n 1, 1) := by decide +kernel
theorem dX11_tryOwners_194 : decode cX11_tryOwners 194 = .ok (.iadd, 1) := by decide +kernel
theorem dX11_tryOwners_195 : decode cX11_tryOwners 195 = .ok (.iload 4, 2) := by decide +kernel
theorem dX11_tryOwners_197 : decode cX11_tryOwners 197 = .ok (.iastore, 1) := by decide +kernel
theorem dX11_tryOwners_198 : decode cX11_tryOwners 198 = .ok (.return_, 1) := by decide +kernel
theorem dX11_arrange_0 : decode cX11_arrange 0 = .ok (.aload_n 0, 1) := by decide +kernel
theorem dX11_arrange_1 : decode cX11_arrange 1 = .ok (.getfield 261, 3) := by decide +kernel
theorem dX11_arrange_4 : decode cX11_arrange 4 = .ok (.ifCond .eq 12, 3) := by decide +kernel
theorem dX11_arrange_7 : decode cX11_arrange 7 = .ok (.iload_n 1, 1) := by decide +kernel
theorem dX11_arrange_8 : decode cX11_arrange 8 = .ok (.iconst 0, 1) := by decide +kernel
theorem dX11_arrange_9 : decode cX11_arrange 9 = .ok (.iconst 1, 1) := by decide +kernel
theorem dX11_arrange_10 : decode cX11_arrange 10 = .ok (.invokestatic 208, 3) := by decide +kernel
theorem dX11_arrange_13 : decode cX11_arrange 13 = .ok (.ifCond .ne 5, 3) := by decide +kernel
theorem dX11_arrange_16 : decode cX11_arrange 16 = .ok (.iconst (-1), 1) := by decide +kernel
theorem dX11_arrange_17 : decode cX11_arrange 17 = .ok (.ireturn, 1) := by decide +kernel
theorem dX11_arrange_18 : decode cX11_arrange 18 = .ok (.aload_n 0, 1) := by decide +kernel
theorem dX11_arrange_19 : decode cX11_arrange 19 = .ok (.iconst (-1), 1) := by decide +kernel
theorem dX11_arrange_20 : decode cX11_arrange 20 = .ok (.putfield 407, 3) := by decide +kernel
theorem dX11_arrange_23 : decode cX11_arrange 23 = .ok (.aload_n 0, 1) := by decide +kernel
theorem dX11_arrange_24 : decode cX11_arrange 24 = .ok (.iconst 0, 1) := by decide +kernel
theorem dX11_arrange_25 : decode cX11_arrange 25 = .ok (.putfield 410, 3) := by decide +kernel
theorem dX11_arrange_28 : decode cX11_arrange 28 = .ok (.aload_n 0, 1) := by decide +kernel
theorem dX11_arrange_29 : decode cX11_arrange 29 = .ok (.iconst 0, 1) := by decide +kernel
theorem dX11_arrange_30 : decode cX11_arrange 30 = .ok (.iconst 0, 1) := by decide +kernel
theorem dX11_arrange_31 : decode cX11_arrange 31 = .ok (.iconst 0, 1) := by decide +kernel
theorem dX11_arrange_32 : decode cX11_arrange 32 = .ok (.invokevirtual 413, 3) := by decide +kernel
theorem dX11_arrange_35 : decode cX11_arrange 35 = .ok (.aload_n 0, 1) := by decide +kernel
theorem dX11_arrange_36 : decode cX11_arrange 36 = .ok (.getfield 407, 3) := by decide +kernel
theorem dX11_arrange_39 : decode cX11_arrange 39 = .ok (.iconst (-1), 1) := by decide +kernel
theorem dX11_arrange_40 : decode cX11_arrange 40 = .ok (.if_icmp .eq 8, 3) := by decide +kernel
theorem dX11_arrange_43 : decode cX11_arrange 43 = .ok (.iload_n 1, 1) := by decide +kernel
theorem dX11_arrange_44 : decode cX11_arrange 44 = .ok (.iconst 1, 1) := by decide +kernel
theorem dX11_arrange_45 : decode cX11_arrange 45 = .ok (.if_icmp .ne 10, 3) := by decide +kernel
theorem dX11_arrange_48 : decode cX11_arrange 48 = .ok (.aload_n 0, 1) := by decide +kernel
theorem dX11_arrange_49 : decode cX11_arrange 49 = .ok (.getfield 407, 3) := by decide +kernel
theorem dX11_arrange_52 : decode cX11_arrange 52 = .ok (.goto 7, 3) := by decide +kernel
theorem dX11_arrange_55 : decode cX11_arrange 55 = .ok (.aload_n 0, 1) := by decide +kernel
theorem dX11_arrange_56 : decode cX11_arrange 56 = .ok (.getfield 410, 3) := by decide +kernel
theorem dX11_arrange_59 : decode cX11_arrange 59 = .ok (.ireturn, 1) := by decide +kernel
theorem dX11_seen_0 : decode cX11_seen 0 = .ok (.aload_n 0, 1) := by decide +kernel
theorem dX11_seen_1 : decode cX11_seen 1 = .ok (.getfield 261, 3) := by decide +kernel
theorem dX11_seen_4 : decode cX11_seen 4 = .ok (.ifCond .eq 26, 3) := by decide +kernel
theorem dX11_seen_7 : decode cX11_seen 7 = .ok (.iload_n 1, 1) := by decide +kernel
theorem dX11_seen_8 : decode cX11_seen 8 = .ok (.invokestatic 401, 3) := by decide +kernel
theorem dX11_seen_11 : decode cX11_seen 11 = .ok (.ifCond .eq 19, 3) := by decide +kernel
theorem dX11_seen_14 : decode cX11_seen 14 = .ok (.iload_n 2, 1) := by decide +kernel
theorem dX11_seen_15 : decode cX11_seen 15 = .ok (.invokestatic 404, 3) := by decide +kernel
theorem dX11_seen_18 : decode cX11_seen 18 = .ok (.ifCond .eq 12, 3) := by decide +kernel
theorem dX11_seen_21 : decode cX11_seen 21 = .ok (.aload_n 0, 1) := by decide +kernel
theorem dX11_seen_22 : decode cX11_seen 22 = .ok (.getfield 270, 3) := by decide +kernel
theorem dX11_seen_25 : decode cX11_seen 25 = .ok (.bipush 10, 2) := by decide +kernel
theorem dX11_seen_27 : decode cX11_seen 27 = .ok (.if_icmp .ne 5, 3) := by decide +kernel
theorem dX11_seen_30 : decode cX11_seen 30 = .ok (.iconst (-1), 1) := by decide +kernel
theorem dX11_seen_31 : decode cX11_seen 31 = .ok (.ireturn, 1) := by decide +kernel
theorem dX11_seen_32 : decode cX11_seen 32 = .ok (.aload_n 0, 1) := by decide +kernel
theorem dX11_seen_33 : decode cX11_seen 33 = .ok (.getfield 77, 3) := by decide +kernel
theorem dX11_seen_36 : decode cX11_seen 36 = .ok (.aload_n 0, 1) := by decide +kernel
theorem dX11_seen_37 : decode cX11_seen 37 = .ok (.getfield 270, 3) := by decide +kernel
theorem dX11_seen_40 : decode cX11_seen 40 = .ok (.iload_n 1, 1) := by decide +kernel
theorem dX11_seen_41 : decode cX11_seen 41 = .ok (.iastore, 1) := by decide +kernel
theorem dX11_seen_42 : decode cX11_seen 42 = .ok (.aload_n 0, 1) := by decide +kernel
theorem dX11_seen_43 : decode cX11_seen 43 = .ok (.getfield 80, 3) := by decide +kernel
theorem dX11_seen_46 : decode cX11_seen 46 = .ok (.aload_n 0, 1) := by decide +kernel
theorem dX11_seen_47 : decode cX11_seen 47 = .ok (.getfield 270, 3) := by decide +kernel
theorem dX11_seen_50 : decode cX11_seen 50 = .ok (.iload_n 2, 1) := by decide +kernel
theorem dX11_seen_51 : decode cX11_seen 51 = .ok (.iastore, 1) := by decide +kernel
theorem dX11_seen_52 : decode cX11_seen 52 = .ok (.aload_n 0, 1) := by decide +kernel
theorem dX11_seen_53 : decode cX11_seen 53 = .ok (.getfield 83, 3) := by decide +kernel
theorem dX11_seen_56 : decode cX11_seen 56 = .ok (.aload_n 0, 1) := by decide +kernel
theorem dX11_seen_57 : decode cX11_seen 57 = .ok (.getfield 270, 3) := by decide +kernel
theorem dX11_seen_60 : decode cX11_seen 60 = .ok (.iload_n 3, 1) := by decide +kernel
theorem dX11_seen_61 : decode cX11_seen 61 = .ok (.bastore, 1) := by decide +kernel
theorem dX11_seen_62 : decode cX11_seen 62 = .ok (.aload_n 0, 1) := by decide +kernel
theorem dX11_seen_63 : decode cX11_seen 63 = .ok (.dup, 1) := by decide +kernel
theorem dX11_seen_64 : decode cX11_seen 64 = .ok (.getfield 270, 3) := by decide +kernel
theorem dX11_seen_67 : decode cX11_seen 67 = .ok (.iconst 1, 1) := by decide +kernel
theorem dX11_seen_68 : decode cX11_seen 68 = .ok (.iadd, 1) := by decide +kernel
theorem dX11_seen_69 : decode cX11_seen 69 = .ok (.putfield 270, 3) := by decide +kernel
theorem dX11_seen_72 : decode cX11_seen 72 = .ok (.aload_n 0, 1) := by decide +kernel
theorem dX11_seen_73 : decode cX11_seen 73 = .ok (.getfield 270, 3) := by decide +kernel
theorem dX11_seen_76 : decode cX11_seen 76 = .ok (.ireturn, 1) := by decide +kernel
theorem dX11_isCase_0 : decode cX11_isCase 0 = .ok (.iload_n 1, 1) := by decide +kernel
theorem dX11_isCase_1 : decode cX11_isCase 1 = .ok (.bipush 10, 2) := by decide +kernel
theorem dX11_isCase_3 : decode cX11_isCase 3 = .ok (.idiv, 1) := by decide +kernel
theorem dX11_isCase_4 : decode cX11_isCase 4 = .ok (.istore_n 2, 1) := by decide +kernel
theorem dX11_isCase_5 : decode cX11_isCase 5 = .ok (.iload_n 1, 1) := by decide +kernel
theorem dX11_isCase_6 : decode cX11_isCase 6 = .ok (.bipush 10, 2) := by decide +kernel
theorem dX11_isCase_8 : decode cX11_isCase 8 = .ok (.irem, 1) := by decide +kernel
theorem dX11_isCase_9 : decode cX11_isCase 9 = .ok (.istore_n 3, 1) := by decide +kernel
theorem dX11_isCase_10 : decode cX11_isCase 10 = .ok (.iload_n 1, 1) := by decide +kernel
theorem dX11_isCase_11 : decode cX11_isCase 11 = .ok (.bipush 99, 2) := by decide +kernel
theorem dX11_isCase_13 : decode cX11_isCase 13 = .ok (.if_icmp .eq 43, 3) := by decide +kernel
theorem dX11_isCase_16 : decode cX11_isCase 16 = .ok (.aload_n 0, 1) := by decide +kernel
theorem dX11_isCase_17 : decode cX11_isCase 17 = .ok (.iload_n 2, 1) := by decide +kernel
theorem dX11_isCase_18 : decode cX11_isCase 18 = .ok (.invokevirtual 328, 3) := by decide +kernel
theorem dX11_isCase_21 : decode cX11_isCase 21 = .ok (.ifCond .eq 39, 3) := by decide +kernel
theorem dX11_isCase_24 : decode cX11_isCase 24 = .ok (.aload_n 0, 1) := by decide +kernel
theorem dX11_isCase_25 : decode cX11_isCase 25 = .ok (.iload_n 3, 1) := by decide +kernel
theorem dX11_isCase_26 : decode cX11_isCase 26 = .ok (.invokevirtual 325, 3) := by decide +kernel
theorem dX11_isCase_29 : decode cX11_isCase 29 = .ok (.ifCond .eq 31, 3) := by decide +kernel
theorem dX11_isCase_32 : decode cX11_isCase 32 = .ok (.aload_n 0, 1) := by decide +kernel
theorem dX11_isCase_33 : decode cX11_isCase 33 = .ok (.getfield 64, 3) := by decide +kernel
theorem dX11_isCase_36 : decode cX11_isCase 36 = .ok (.iconst 0, 1) := by decide +kernel
theorem dX11_isCase_37 : decode cX11_isCase 37 = .ok (.iload_n 2, 1) := by decide +kernel
theorem dX11_isCase_38 : decode cX11_isCase 38 = .ok (.iadd, 1) := by decide +kernel
theorem dX11_isCase_39 : decode cX11_isCase 39 = .ok (.iaload, 1) := by decide +kernel
theorem dX11_isCase_40 : decode cX11_isCase 40 = .ok (.iconst (-1), 1) := by decide +kernel
theorem dX11_isCase_41 : decode cX11_isCase 41 = .ok (.if_icmp .eq 19, 3) := by decide +kernel
theorem dX11_isCase_44 : decode cX11_isCase 44 = .ok (.aload_n 0, 1) := by decide +kernel
theorem dX11_isCase_45 : decode cX11_isCase 45 = .ok (.getfield 64, 3) := by decide +kernel
theorem dX11_isCase_48 : decode cX11_isCase 48 = .ok (.iconst 0, 1) := by decide +kernel
theorem dX11_isCase_49 : decode cX11_isCase 49 = .ok (.iload_n 2, 1) := by decide +kernel
theorem dX11_isCase_50 : decode cX11_isCase 50 = .ok (.iadd, 1) := by decide +kernel
theorem dX11_isCase_51 : decode cX11_isCase 51 = .ok (.iaload, 1) := by decide +kernel
theorem dX11_isCase_52 : decode cX11_isCase 52 = .ok (.iload_n 3, 1) := by decide +kernel
theorem dX11_isCase_53 : decode cX11_isCase 53 = .ok (.if_icmp .eq 7, 3) := by decide +kernel
theorem dX11_isCase_56 : decode cX11_isCase 56 = .ok (.iconst 1, 1) := by decide +kernel
theorem dX11_isCase_57 : decode cX11_isCase 57 = .ok (.goto 4, 3) := by decide +kernel
theorem dX11_isCase_60 : decode cX11_isCase 60 = .ok (.iconst 0, 1) := by decide +kernel
theorem dX11_isCase_61 : decode cX11_isCase 61 = .ok (.ireturn, 1) := by decide +kernel
theorem dX11_layCase_0 : decode cX11_layCase 0 = .ok (.iload_n 1, 1) := by decide +kernel
theorem dX11_layCase_1 : decode cX11_layCase 1 = .ok (.bipush 99, 2) := by decide +kernel
theorem dX11_layCase_3 : decode cX11_layCase 3 = .ok (.if_icmp .ne 5, 3) := by decide +kernel
theorem dX11_layCase_6 : decode cX11_layCase 6 = .ok (.iconst (-1), 1) := by decide +kernel
theorem dX11_layCase_7 : decode cX11_layCase 7 = .ok (.ireturn, 1) := by decide +kernel
theorem dX11_layCase_8 : decode cX11_layCase 8 = .ok (.aload_n 0, 1) := by decide +kernel
theorem dX11_layCase_9 : decode cX11_layCase 9 = .ok (.getfield 64, 3) := by decide +kernel
theorem dX11_layCase_12 : decode cX11_layCase 12 = .ok (.iconst 0, 1) := by decide +kernel
theorem dX11_layCase_13 : decode cX11_layCase 13 = .ok (.iload_n 1, 1) := by decide +kernel
theorem dX11_layCase_14 : decode cX11_layCase 14 = .ok (.bipush 10, 2) := by decide +kernel
theorem dX11_layCase_16 : decode cX11_layCase 16 = .ok (.idiv, 1) := by decide +kernel
theorem dX11_layCase_17 : decode cX11_layCase 17 = .ok (.iadd, 1) := by decide +kernel
theorem dX11_layCase_18 : decode cX11_layCase 18 = .ok (.iaload, 1) := by decide +kernel
theorem dX11_layCase_19 : decode cX11_layCase 19 = .ok (.istore_n 2, 1) := by decide +kernel
theorem dX11_layCase_20 : decode cX11_layCase 20 = .ok (.aload_n 0, 1) := by decide +kernel
theorem dX11_layCase_21 : decode cX11_layCase 21 = .ok (.getfield 64, 3) := by decide +kernel
theorem dX11_layCase_24 : decode cX11_layCase 24 = .ok (.iconst 0, 1) := by decide +kernel
theorem dX11_layCase_25 : decode cX11_layCase 25 = .ok (.iload_n 1, 1) := by decide +kernel
theorem dX11_layCase_26 : decode cX11_layCase 26 = .ok (.bipush 10, 2) := by decide +kernel
theorem dX11_layCase_28 : decode cX11_layCase 28 = .ok (.idiv, 1) := by decide +kernel
theorem dX11_layCase_29 : decode cX11_layCase 29 = .ok (.iadd, 1) := by decide +kernel
theorem dX11_layCase_30 : decode cX11_layCase 30 = .ok (.iload_n 1, 1) := by decide +kernel
theorem dX11_layCase_31 : decode cX11_layCase 31 = .ok (.bipush 10, 2) := by decide +kernel
theorem dX11_layCase_33 : decode cX11_layCase 33 = .ok (.irem, 1) := by decide +kernel
theorem dX11_layCase_34 : decode cX11_layCase 34 = .ok (.iastore, 1) := by decide +kernel
theorem dX11_layCase_35 : decode cX11_layCase 35 = .ok (.iload_n 2, 1) := by decide +kernel
theorem dX11_layCase_36 : decode cX11_layCase 36 = .ok (.ireturn, 1) := by decide +kernel
theorem dX11_takeCase_0 : decode cX11_takeCase 0 = .ok (.iload_n 1, 1) := by decide +kernel
theorem dX11_takeCase_1 : decode cX11_takeCase 1 = .ok (.bipush 99, 2) := by decide +kernel
theorem dX11_takeCase_3 : decode cX11_takeCase 3 = .ok (.if_icmp .eq 15, 3) := by decide +kernel
theorem dX11_takeCase_6 : decode cX11_takeCase 6 = .ok (.aload_n 0, 1) := by decide +kernel
theorem dX11_takeCase_7 : decode cX11_takeCase 7 = .ok (.getfield 64, 3) := by decide +kernel
theorem dX11_takeCase_10 : decode cX11_takeCase 10 = .ok (.iconst 0, 1) := by decide +kernel
theorem dX11_takeCase_11 : decode cX11_takeCase 11 = .ok (.iload_n 1, 1) := by decide +kernel
theorem dX11_takeCase_12 : decode cX11_takeCase 12 = .ok (.bipush 10, 2) := by decide +kernel
theorem dX11_takeCase_14 : decode cX11_takeCase 14 = .ok (.idiv, 1) := by decide +kernel
theorem dX11_takeCase_15 : decode cX11_takeCase 15 = .ok (.iadd, 1) := by decide +kernel
theorem dX11_takeCase_16 : decode cX11_takeCase 16 = .ok (.iload_n 2, 1) := by decide +kernel
theorem dX11_takeCase_17 : decode cX11_takeCase 17 = .ok (.iastore, 1) := by decide +kernel
theorem dX11_takeCase_18 : decode cX11_takeCase 18 = .ok (.return_, 1) := by decide +kernel
theorem dX11_isSo_0 : decode cX11_isSo 0 = .ok (.aload_n 0, 1) := by decide +kernel
theorem dX11_isSo_1 : decode cX11_isSo 1 = .ok (.iload_n 1, 1) := by decide +kernel
theorem dX11_isSo_2 : decode cX11_isSo 2 = .ok (.invokevirtual 417, 3) := by decide +kernel
theorem dX11_isSo_5 : decode cX11_isSo 5 = .ok (.ifCond .ne 5, 3) := by decide +kernel
theorem dX11_isSo_8 : decode cX11_isSo 8 = .ok (.iconst 0, 1) := by decide +kernel
theorem dX11_isSo_9 : decode cX11_isSo 9 = .ok (.ireturn, 1) := by decide +kernel
theorem dX11_isSo_10 : decode cX11_isSo 10 = .ok (.aload_n 0, 1) := by decide +kernel
theorem dX11_isSo_11 : decode cX11_isSo 11 = .ok (.iload_n 1, 1) := by decide +kernel
theorem dX11_isSo_12 : decode cX11_isSo 12 = .ok (.invokevirtual 420, 3) := by decide +kernel
theorem dX11_isSo_15 : decode cX11_isSo 15 = .ok (.istore_n 2, 1) := by decide +kernel
theorem dX11_isSo_16 : decode cX11_isSo 16 = .ok (.iconst 1, 1) := by decide +kernel
theorem dX11_isSo_17 : decode cX11_isSo 17 = .ok (.istore_n 3, 1) := by decide +kernel
theorem dX11_isSo_18 : decode cX11_isSo 18 = .ok (.iconst 0, 1) := by decide +kernel
theorem dX11_isSo_19 : decode cX11_isSo 19 = .ok (.istore 4, 2) := by decide +kernel
theorem dX11_isSo_21 : decode cX11_isSo 21 = .ok (.iload 4, 2) := by decide +kernel
theorem dX11_isSo_23 : decode cX11_isSo 23 = .ok (.aload_n 0, 1) := by decide +kernel
theorem dX11_isSo_24 : decode cX11_isSo 24 = .ok (.getfield 270, 3) := by decide +kernel
theorem dX11_isSo_27 : decode cX11_isSo 27 = .ok (.if_icmp .ge 55, 3) := by decide +kernel
theorem dX11_isSo_30 : decode cX11_isSo 30 = .ok (.iload_n 3, 1) := by decide +kernel
theorem dX11_isSo_31 : decode cX11_isSo 31 = .ok (.ifCond .eq 51, 3) := by decide +kernel
theorem dX11_isSo_34 : decode cX11_isSo 34 = .ok (.aload_n 0, 1) := by decide +kernel
theorem dX11_isSo_35 : decode cX11_isSo 35 = .ok (.aload_n 0, 1) := by decide +kernel
theorem dX11_isSo_36 : decode cX11_isSo 36 = .ok (.getfield 77, 3) := by decide +kernel
theorem dX11_isSo_39 : decode cX11_isSo 39 = .ok (.iload 4, 2) := by decide +kernel
theorem dX11_isSo_41 : decode cX11_isSo 41 = .ok (.iaload, 1) := by decide +kernel
theorem dX11_isSo_42 : decode cX11_isSo 42 = .ok (.invokevirtual 319, 3) := by decide +kernel
theorem dX11_isSo_45 : decode cX11_isSo 45 = .ok (.aload_n 0, 1) := by decide +kernel
theorem dX11_isSo_46 : decode cX11_isSo 46 = .ok (.getfield 80, 3) := by decide +kernel
theorem dX11_isSo_49 : decode cX11_isSo 49 = .ok (.iload 4, 2) := by decide +kernel
theorem dX11_isSo_51 : decode cX11_isSo 51 = .ok (.iaload, 1) := by decide +kernel
theorem dX11_isSo_52 : decode cX11_isSo 52 = .ok (.if_icmp .ne 7, 3) := by decide +kernel
theorem dX11_isSo_55 : decode cX11_isSo 55 = .ok (.iconst 1, 1) := by decide +kernel
theorem dX11_isSo_56 : decode cX11_isSo 56 = .ok (.goto 4, 3) := by decide +kernel
theorem dX11_isSo_59 : decode cX11_isSo 59 = .ok (.iconst 0, 1) := by decide +kernel
theorem dX11_isSo_60 : decode cX11_isSo 60 = .ok (.aload_n 0, 1) := by decide +kernel
theorem dX11_isSo_61 : decode cX11_isSo 61 = .ok (.getfield 83, 3) := by decide +kernel
theorem dX11_isSo_64 : decode cX11_isSo 64 = .ok (.iload 4, 2) := by decide +kernel
theorem dX11_isSo_66 : decode cX11_isSo 66 = .ok (.baload, 1) := by decide +kernel
theorem dX11_isSo_67 : decode cX11_isSo 67 = .ok (.if_icmp .ne 7, 3) := by decide +kernel
theorem dX11_isSo_70 : decode cX11_isSo 70 = .ok (.iconst 1, 1) := by decide +kernel
theorem dX11_isSo_71 : decode cX11_isSo 71 = .ok (.goto 4, 3) := by decide +kernel
theorem dX11_isSo_74 : decode cX11_isSo 74 = .ok (.iconst 0, 1) := by decide +kernel
theorem dX11_isSo_75 : decode cX11_isSo 75 = .ok (.istore_n 3, 1) := by decide +kernel
theorem dX11_isSo_76 : decode cX11_isSo 76 = .ok (.iinc 4 1, 3) := by decide +kernel
theorem dX11_isSo_79 : decode cX11_isSo 79 = .ok (.goto (-58), 3) := by decide +kernel
theorem dX11_isSo_82 : decode cX11_isSo 82 = .ok (.aload_n 0, 1) := by decide +kernel
theorem dX11_isSo_83 : decode cX11_isSo 83 = .ok (.iload_n 1, 1) := by decide +kernel
theorem dX11_isSo_84 : decode cX11_isSo 84 = .ok (.iload_n 2, 1) := by decide +kernel
theorem dX11_isSo_85 : decode cX11_isSo 85 = .ok (.invokevirtual 423, 3) := by decide +kernel
theorem dX11_isSo_88 : decode cX11_isSo 88 = .ok (.iload_n 3, 1) := by decide +kernel
theorem dX11_isSo_89 : decode cX11_isSo 89 = .ok (.ireturn, 1) := by decide +kernel
theorem dX11_who_0 : decode cX11_who 0 = .ok (.aload_n 0, 1) := by decide +kernel
theorem dX11_who_1 : decode cX11_who 1 = .ok (.getfield 261, 3) := by decide +kernel
theorem dX11_who_4 : decode cX11_who 4 = .ok (.ifCond .eq 8, 3) := by decide +kernel
theorem dX11_who_7 : decode cX11_who 7 = .ok (.iload_n 1, 1) := by decide +kernel
theorem dX11_who_8 : decode cX11_who 8 = .ok (.iconst (-1), 1) := by decide +kernel
theorem dX11_who_9 : decode cX11_who 9 = .ok (.if_icmp .ge 5, 3) := by decide +kernel
theorem dX11_who_12 : decode cX11_who 12 = .ok (.iconst (-1), 1) := by decide +kernel
theorem dX11_who_13 : decode cX11_who 13 = .ok (.ireturn, 1) := by decide +kernel
theorem dX11_who_14 : decode cX11_who 14 = .ok (.iconst 0, 1) := by decide +kernel
theorem dX11_who_15 : decode cX11_who 15 = .ok (.istore_n 2, 1) := by decide +kernel
theorem dX11_who_16 : decode cX11_who 16 = .ok (.iconst 0, 1) := by decide +kernel
theorem dX11_who_17 : decode cX11_who 17 = .ok (.istore_n 3, 1) := by decide +kernel
theorem dX11_who_18 : decode cX11_who 18 = .ok (.iload_n 3, 1) := by decide +kernel
theorem dX11_who_19 : decode cX11_who 19 = .ok (.bipush 99, 2) := by decide +kernel
theorem dX11_who_21 : decode cX11_who 21 = .ok (.if_icmp .gt 27, 3) := by decide +kernel
theorem dX11_who_24 : decode cX11_who 24 = .ok (.aload_n 0, 1) := by decide +kernel
theorem dX11_who_25 : decode cX11_who 25 = .ok (.iload_n 3, 1) := by decide +kernel
theorem dX11_who_26 : decode cX11_who 26 = .ok (.invokevirtual 426, 3) := by decide +kernel
theorem dX11_who_29 : decode cX11_who 29 = .ok (.ifCond .eq 13, 3) := by decide +kernel
theorem dX11_who_32 : decode cX11_who 32 = .ok (.iload_n 2, 1) := by decide +kernel
theorem dX11_who_33 : decode cX11_who 33 = .ok (.iload_n 1, 1) := by decide +kernel
theorem dX11_who_34 : decode cX11_who 34 = .ok (.if_icmp .ne 5, 3) := by decide +kernel
theorem dX11_who_37 : decode cX11_who 37 = .ok (.iload_n 3, 1) := by decide +kernel
theorem dX11_who_38 : decode cX11_who 38 = .ok (.ireturn, 1) := by decide +kernel
theorem dX11_who_39 : decode cX11_who 39 = .ok (.iinc 2 1, 3) := by decide +kernel
theorem dX11_who_42 : decode cX11_who 42 = .ok (.iinc 3 1, 3) := by decide +kernel
theorem dX11_who_45 : decode cX11_who 45 = .ok (.goto (-27), 3) := by decide +kernel
theorem dX11_who_48 : decode cX11_who 48 = .ok (.iload_n 1, 1) := by decide +kernel
theorem dX11_who_49 : decode cX11_who 49 = .ok (.iconst (-1), 1) := by decide +kernel
theorem dX11_who_50 : decode cX11_who 50 = .ok (.if_icmp .ne 7, 3) := by decide +kernel
theorem dX11_who_53 : decode cX11_who 53 = .ok (.iload_n 2, 1) := by decide +kernel
theorem dX11_who_54 : decode cX11_who 54 = .ok (.goto 4, 3) := by decide +kernel
theorem dX11_who_57 : decode cX11_who 57 = .ok (.iconst (-1), 1) := by decide +kernel
theorem dX11_who_58 : decode cX11_who 58 = .ok (.ireturn, 1) := by decide +kernel
theorem dX11_best_0 : decode cX11_best 0 = .ok (.aload_n 0, 1) := by decide +kernel
theorem dX11_best_1 : decode cX11_best 1 = .ok (.getfield 261, 3) := by decide +kernel
theorem dX11_best_4 : decode cX11_best 4 = .ok (.ifCond .eq 12, 3) := by decide +kernel
theorem dX11_best_7 : decode cX11_best 7 = .ok (.aload_n 0, 1) := by decide +kernel
theorem dX11_best_8 : decode cX11_best 8 = .ok (.iconst 0, 1) := by decide +kernel
theorem dX11_best_9 : decode cX11_best 9 = .ok (.invokevirtual 429, 3) := by decide +kernel
theorem dX11_best_12 : decode cX11_best 12 = .ok (.iconst (-1), 1) := by decide +kernel
theorem dX11_best_13 : decode cX11_best 13 = .ok (.if_icmp .ne 5, 3) := by decide +kernel
theorem dX11_best_16 : decode cX11_best 16 = .ok (.iconst (-1), 1) := by decide +kernel
theorem dX11_best_17 : decode cX11_best 17 = .ok (.ireturn, 1) := by decide +kernel
theorem dX11_best_18 : decode cX11_best 18 = .ok (.iconst 0, 1) := by decide +kernel
theorem dX11_best_19 : decode cX11_best 19 = .ok (.istore_n 1, 1) := by decide +kernel
theorem dX11_best_20 : decode cX11_best 20 = .ok (.iload_n 1, 1) := by decide +kernel
theorem dX11_best_21 : decode cX11_best 21 = .ok (.aload_n 0, 1) := by decide +kernel
theorem dX11_best_22 : decode cX11_best 22 = .ok (.getfield 87, 3) := by decide +kernel
theorem dX11_best_25 : decode cX11_best 25 = .ok (.arraylength, 1) := by decide +kernel
theorem dX11_best_26 : decode cX11_best 26 = .ok (.if_icmp .ge 16, 3) := by decide +kernel
theorem dX11_best_29 : decode cX11_best 29 = .ok (.aload_n 0, 1) := by decide +kernel
theorem dX11_best_30 : decode cX11_best 30 = .ok (.getfield 87, 3) := by decide +kernel
theorem dX11_best_33 : decode cX11_best 33 = .ok (.iload_n 1, 1) := by decide +kernel
theorem dX11_best_34 : decode cX11_best 34 = .ok (.iconst 0, 1) := by decide +kernel
theorem dX11_best_35 : decode cX11_best 35 = .ok (.iastore, 1) := by decide +kernel
theorem dX11_best_36 : decode cX11_best 36 = .ok (.iinc 1 1, 3) := by decide +kernel
theorem dX11_best_39 : decode cX11_best 39 = .ok (.goto (-19), 3) := by decide +kernel
theorem dX11_best_42 : decode cX11_best 42 = .ok (.iconst 0, 1) := by decide +kernel
theorem dX11_best_43 : decode cX11_best 43 = .ok (.istore_n 1, 1) := by decide +kernel
theorem dX11_best_44 : decode cX11_best 44 = .ok (.iload_n 1, 1) := by decide +kernel
theorem dX11_best_45 : decode cX11_best 45 = .ok (.bipush 99, 2) := by decide +kernel
theorem dX11_best_47 : decode cX11_best 47 = .ok (.if_icmp .gt 64, 3) := by decide +kernel
theorem dX11_best_50 : decode cX11_best 50 = .ok (.aload_n 0, 1) := by decide +kernel
theorem dX11_best_51 : decode cX11_best 51 = .ok (.iload_n 1, 1) := by decide +kernel
theorem dX11_best_52 : decode cX11_best 52 = .ok (.invokevirtual 426, 3) := by decide +kernel
theorem dX11_best_55 : decode cX11_best 55 = .ok (.ifCond .eq 50, 3) := by decide +kernel
theorem dX11_best_58 : decode cX11_best 58 = .ok (.aload_n 0, 1) := by decide +kernel
theorem dX11_best_59 : decode cX11_best 59 = .ok (.iload_n 1, 1) := by decide +kernel
theorem dX11_best_60 : decode cX11_best 60 = .ok (.invokevirtual 420, 3) := by decide +kernel
theorem dX11_best_63 : decode cX11_best 63 = .ok (.istore_n 2, 1) := by decide +kernel
theorem dX11_best_64 : decode cX11_best 64 = .ok (.iconst 0, 1) := by decide +kernel
theorem dX11_best_65 : decode cX11_best 65 = .ok (.istore_n 3, 1) := by decide +kernel
theorem dX11_best_66 : decode cX11_best 66 = .ok (.iload_n 3, 1) := by decide +kernel
theorem dX11_best_67 : decode cX11_best 67 = .ok (.bipush 10, 2) := by decide +kernel
theorem dX11_best_69 : decode cX11_best 69 = .ok (.if_icmp .ge 30, 3) := by decide +kernel
theorem dX11_best_72 : decode cX11_best 72 = .ok (.aload_n 0, 1) := by decide +kernel
theorem dX11_best_73 : decode cX11_best 73 = .ok (.getfield 87, 3) := by decide +kernel
theorem dX11_best_76 : decode cX11_best 76 = .ok (.bipush 7, 2) := by decide +kernel
theorem dX11_best_78 : decode cX11_best 78 = .ok (.iload_n 3, 1) := by decide +kernel
theorem dX11_best_79 : decode cX11_best 79 = .ok (.imul, 1) := by decide +kernel
theorem dX11_best_80 : decode cX11_best 80 = .ok (.aload_n 0, 1) := by decide +kernel
theorem dX11_best_81 : decode cX11_best 81 = .ok (.iload_n 3, 1) := by decide +kernel
theorem dX11_best_82 : decode cX11_best 82 = .ok (.invokevirtual 319, 3) := by decide +kernel
theorem dX11_best_85 : decode cX11_best 85 = .ok (.iadd, 1) := by decide +kernel
theorem dX11_best_86 : decode cX11_best 86 = .ok (.iconst 1, 1) := by decide +kernel
theorem dX11_best_87 : decode cX11_best 87 = .ok (.iadd, 1) := by decide +kernel
theorem dX11_best_88 : decode cX11_best 88 = .ok (.dup2, 1) := by decide +kernel
theorem dX11_best_89 : decode cX11_best 89 = .ok (.iaload, 1) := by decide +kernel
theorem dX11_best_90 : decode cX11_best 90 = .ok (.iconst 1, 1) := by decide +kernel
theorem dX11_best_91 : decode cX11_best 91 = .ok (.iadd, 1) := by decide +kernel
theorem dX11_best_92 : decode cX11_best 92 = .ok (.iastore, 1) := by decide +kernel
theorem dX11_best_93 : decode cX11_best 93 = .ok (.iinc 3 1, 3) := by decide +kernel
theorem dX11_best_96 : decode cX11_best 96 = .ok (.goto (-30), 3) := by decide +kernel
theorem dX11_best_99 : decode cX11_best 99 = .ok (.aload_n 0, 1) := by decide +kernel
theorem dX11_best_100 : decode cX11_best 100 = .ok (.iload_n 1, 1) := by decide +kernel
theorem dX11_best_101 : decode cX11_best 101 = .ok (.iload_n 2, 1) := by decide +kernel
theorem dX11_best_102 : decode cX11_best 102 = .ok (.invokevirtual 423, 3) := by decide +kernel
theorem dX11_best_105 : decode cX11_best 105 = .ok (.iinc 1 1, 3) := by decide +kernel
theorem dX11_best_108 : decode cX11_best 108 = .ok (.goto (-64), 3) := by decide +kernel
theorem dX11_best_111 : decode cX11_best 111 = .ok (.iconst (-1), 1) := by decide +kernel
theorem dX11_best_112 : decode cX11_best 112 = .ok (.istore_n 1, 1) := by decide +kernel
theorem dX11_best_113 : decode cX11_best 113 = .ok (.iconst 0, 1) := by decide +kernel
theorem dX11_best_114 : decode cX11_best 114 = .ok (.istore_n 2, 1) := by decide +kernel
theorem dX11_best_115 : decode cX11_best 115 = .ok (.iconst 0, 1) := by decide +kernel
theorem dX11_best_116 : decode cX11_best 116 = .ok (.istore_n 3, 1) := by decide +kernel
theorem dX11_best_117 : decode cX11_best 117 = .ok (.iload_n 3, 1) := by decide +kernel
theorem dX11_best_118 : decode cX11_best 118 = .ok (.bipush 10, 2) := by decide +kernel
theorem dX11_best_120 : decode cX11_best 120 = .ok (.if_icmp .ge 63, 3) := by decide +kernel
theorem dX11_best_123 : decode cX11_best 123 = .ok (.iconst 0, 1) := by decide +kernel
theorem dX11_best_124 : decode cX11_best 124 = .ok (.istore 4, 2) := by decide +kernel
theorem dX11_best_126 : decode cX11_best 126 = .ok (.iconst 0, 1) := by decide +kernel
theorem dX11_best_127 : decode cX11_best 127 = .ok (.istore 5, 2) := by decide +kernel
theorem dX11_best_129 : decode cX11_best 129 = .ok (.iload 5, 2) := by decide +kernel
theorem dX11_best_131 : decode cX11_best 131 = .ok (.bipush 6, 2) := by decide +kernel
theorem dX11_best_133 : decode cX11_best 133 = .ok (.if_icmp .gt 28, 3) := by decide +kernel
theorem dX11_best_136 : decode cX11_best 136 = .ok (.iload 4, 2) := by decide +kernel
theorem dX11_best_138 : decode cX11_best 138 = .ok (.aload_n 0, 1) := by decide +kernel
theorem dX11_best_139 : decode cX11_best 139 = .ok (.getfield 87, 3) := by decide +kernel
theorem dX11_best_142 : decode cX11_best 142 = .ok (.bipush 7, 2) := by decide +kernel
theorem dX11_best_144 : decode cX11_best 144 = .ok (.iload_n 3, 1) := by decide +kernel
theorem dX11_best_145 : decode cX11_best 145 = .ok (.imul, 1) := by decide +kernel
theorem dX11_best_146 : decode cX11_best 146 = .ok (.iload 5, 2) := by decide +kernel
theorem dX11_best_148 : decode cX11_best 148 = .ok (.iadd, 1) := by decide +kernel
theorem dX11_best_149 : decode cX11_best 149 = .ok (.iaload, 1) := by decide +kernel
theorem dX11_best_150 : decode cX11_best 150 = .ok (.invokestatic 299, 3) := by decide +kernel
theorem dX11_best_153 : decode cX11_best 153 = .ok (.istore 4, 2) := by decide +kernel
theorem dX11_best_155 : decode cX11_best 155 = .ok (.iinc 5 1, 3) := by decide +kernel
theorem dX11_best_158 : decode cX11_best 158 = .ok (.goto (-29), 3) := by decide +kernel
theorem dX11_best_161 : decode cX11_best 161 = .ok (.iload_n 1, 1) := by decide +kernel
theorem dX11_best_162 : decode cX11_best 162 = .ok (.iconst (-1), 1) := by decide +kernel
theorem dX11_best_163 : decode cX11_best 163 = .ok (.if_icmp .eq 9, 3) := by decide +kernel
theorem dX11_best_166 : decode cX11_best 166 = .ok (.iload 4, 2) := by decide +kernel
theorem dX11_best_168 : decode cX11_best 168 = .ok (.iload_n 2, 1) := by decide +kernel
theorem dX11_best_169 : decode cX11_best 169 = .ok (.if_icmp .ge 8, 3) := by decide +kernel
theorem dX11_best_172 : decode cX11_best 172 = .ok (.iload_n 3, 1) := by decide +kernel
theorem dX11_best_173 : decode cX11_best 173 = .ok (.istore_n 1, 1) := by decide +kernel
theorem dX11_best_174 : decode cX11_best 174 = .ok (.iload 4, 2) := by decide +kernel
theorem dX11_best_176 : decode cX11_best 176 = .ok (.istore_n 2, 1) := by decide +kernel
theorem dX11_best_177 : decode cX11_best 177 = .ok (.iinc 3 1, 3) := by decide +kernel
theorem dX11_best_180 : decode cX11_best 180 = .ok (.goto (-63), 3) := by decide +kernel
theorem dX11_best_183 : decode cX11_best 183 = .ok (.iload_n 1, 1) := by decide +kernel
theorem dX11_best_184 : decode cX11_best 184 = .ok (.ireturn, 1) := by decide +kernel
theorem dX11_gameOf_0 : decode cX11_gameOf 0 = .ok (.aload_n 0, 1) := by decide +kernel
theorem dX11_gameOf_1 : decode cX11_gameOf 1 = .ok (.iload_n 1, 1) := by decide +kernel
theorem dX11_gameOf_2 : decode cX11_gameOf 2 = .ok (.iload_n 2, 1) := by decide +kernel
theorem dX11_gameOf_3 : decode cX11_gameOf 3 = .ok (.invokevirtual 344, 3) := by decide +kernel
theorem dX11_gameOf_6 : decode cX11_gameOf 6 = .ok (.istore 5, 2) := by decide +kernel
theorem dX11_gameOf_8 : decode cX11_gameOf 8 = .ok (.aload_n 0, 1) := by decide +kernel
theorem dX11_gameOf_9 : decode cX11_gameOf 9 = .ok (.iload 5, 2) := by decide +kernel
theorem dX11_gameOf_11 : decode cX11_gameOf 11 = .ok (.aload_n 0, 1) := by decide +kernel
theorem dX11_gameOf_12 : decode cX11_gameOf 12 = .ok (.iload_n 3, 1) := by decide +kernel
theorem dX11_gameOf_13 : decode cX11_gameOf 13 = .ok (.iload 4, 2) := by decide +kernel
theorem dX11_gameOf_15 : decode cX11_gameOf 15 = .ok (.invokevirtual 344, 3) := by decide +kernel
theorem dX11_gameOf_18 : decode cX11_gameOf 18 = .ok (.invokevirtual 347, 3) := by decide +kernel
theorem dX11_gameOf_21 : decode cX11_gameOf 21 = .ok (.istore 6, 2) := by decide +kernel
theorem dX11_gameOf_23 : decode cX11_gameOf 23 = .ok (.aload_n 0, 1) := by decide +kernel
theorem dX11_gameOf_24 : decode cX11_gameOf 24 = .ok (.iload 5, 2) := by decide +kernel
theorem dX11_gameOf_26 : decode cX11_gameOf 26 = .ok (.invokevirtual 304, 3) := by decide +kernel
theorem dX11_gameOf_29 : decode cX11_gameOf 29 = .ok (.ifCond .ne 9, 3) := by decide +kernel
theorem dX11_gameOf_32 : decode cX11_gameOf 32 = .ok (.iload 6, 2) := by decide +kernel
theorem dX11_gameOf_34 : decode cX11_gameOf 34 = .ok (.iconst 2, 1) := by decide +kernel
theorem dX11_gameOf_35 : decode cX11_gameOf 35 = .ok (.if_icmp .ne 13, 3) := by decide +kernel
theorem dX11_gameOf_38 : decode cX11_gameOf 38 = .ok (.aload_n 0, 1) := by decide +kernel
theorem dX11_gameOf_39 : decode cX11_gameOf 39 = .ok (.iload_n 1, 1) := by decide +kernel
theorem dX11_gameOf_40 : decode cX11_gameOf 40 = .ok (.iconst 2, 1) := by decide +kernel
theorem dX11_gameOf_41 : decode cX11_gameOf 41 = .ok (.invokevirtual 267, 3) := by decide +kernel
theorem dX11_gameOf_44 : decode cX11_gameOf 44 = .ok (.ineg, 1) := by decide +kernel
theorem dX11_gameOf_45 : decode cX11_gameOf 45 = .ok (.goto 19, 3) := by decide +kernel
theorem dX11_gameOf_48 : decode cX11_gameOf 48 = .ok (.iload 6, 2) := by decide +kernel
theorem dX11_gameOf_50 : decode cX11_gameOf 50 = .ok (.iconst 1, 1) := by decide +kernel
theorem dX11_gameOf_51 : decode cX11_gameOf 51 = .ok (.if_icmp .ne 12, 3) := by decide +kernel
theorem dX11_gameOf_54 : decode cX11_gameOf 54 = .ok (.aload_n 0, 1) := by decide +kernel
theorem dX11_gameOf_55 : decode cX11_gameOf 55 = .ok (.iload_n 3, 1) := by decide +kernel
theorem dX11_gameOf_56 : decode cX11_gameOf 56 = .ok (.iconst 2, 1) := by decide +kernel
theorem dX11_gameOf_57 : decode cX11_gameOf 57 = .ok (.invokevirtual 267, 3) := by decide +kernel
theorem dX11_gameOf_60 : decode cX11_gameOf 60 = .ok (.goto 4, 3) := by decide +kernel
theorem dX11_gameOf_63 : decode cX11_gameOf 63 = .ok (.iconst 0, 1) := by decide +kernel
theorem dX11_gameOf_64 : decode cX11_gameOf 64 = .ok (.ireturn, 1) := by decide +kernel
theorem dX11_game_0 : decode cX11_game 0 = .ok (.aload_n 0, 1) := by decide +kernel
theorem dX11_game_1 : decode cX11_game 1 = .ok (.iload_n 1, 1) := by decide +kernel
theorem dX11_game_2 : decode cX11_game 2 = .ok (.iload_n 2, 1) := by decide +kernel
theorem dX11_game_3 : decode cX11_game 3 = .ok (.iload_n 3, 1) := by decide +kernel
theorem dX11_game_4 : decode cX11_game 4 = .ok (.iload 4, 2) := by decide +kernel
theorem dX11_game_6 : decode cX11_game 6 = .ok (.invokevirtual 350, 3) := by decide +kernel
theorem dX11_game_9 : decode cX11_game 9 = .ok (.iconst (-1), 1) := by decide +kernel
theorem dX11_game_10 : decode cX11_game 10 = .ok (.if_icmp .ne 13, 3) := by decide +kernel
theorem dX11_game_13 : decode cX11_game 13 = .ok (.iload 5, 2) := by decide +kernel
theorem dX11_game_15 : decode cX11_game 15 = .ok (.iconst 0, 1) := by decide +kernel
theorem dX11_game_16 : decode cX11_game 16 = .ok (.iconst 1, 1) := by decide +kernel
theorem dX11_game_17 : decode cX11_game 17 = .ok (.invokestatic 208, 3) := by decide +kernel
theorem dX11_game_20 : decode cX11_game 20 = .ok (.ifCond .ne 7, 3) := by decide +kernel
theorem dX11_game_23 : decode cX11_game 23 = .ok (.ldc_w 331, 3) := by decide +kernel
theorem dX11_game_26 : decode cX11_game 26 = .ok (.ireturn, 1) := by decide +kernel
theorem dX11_game_27 : decode cX11_game 27 = .ok (.iload 5, 2) := by decide +kernel
theorem dX11_game_29 : decode cX11_game 29 = .ok (.ifCond .ne 15, 3) := by decide +kernel
theorem dX11_game_32 : decode cX11_game 32 = .ok (.aload_n 0, 1) := by decide +kernel
theorem dX11_game_33 : decode cX11_game 33 = .ok (.iload_n 1, 1) := by decide +kernel
theorem dX11_game_34 : decode cX11_game 34 = .ok (.iload_n 2, 1) := by decide +kernel
theorem dX11_game_35 : decode cX11_game 35 = .ok (.iload_n 3, 1) := by decide +kernel
theorem dX11_game_36 : decode cX11_game 36 = .ok (.iload 4, 2) := by decide +kernel
theorem dX11_game_38 : decode cX11_game 38 = .ok (.invokevirtual 432, 3) := by decide +kernel
theorem dX11_game_41 : decode cX11_game 41 = .ok (.goto 12, 3) := by decide +kernel
theorem dX11_game_44 : decode cX11_game 44 = .ok (.aload_n 0, 1) := by decide +kernel
theorem dX11_game_45 : decode cX11_game 45 = .ok (.iload_n 3, 1) := by decide +kernel
theorem dX11_game_46 : decode cX11_game 46 = .ok (.iload 4, 2) := by decide +kernel
theorem dX11_game_48 : decode cX11_game 48 = .ok (.iload_n 1, 1) := by decide +kernel
theorem dX11_game_49 : decode cX11_game 49 = .ok (.iload_n 2, 1) := by decide +kernel
theorem dX11_game_50 : decode cX11_game 50 = .ok (.invokevirtual 432, 3) := by decide +kernel
theorem dX11_game_53 : decode cX11_game 53 = .ok (.ireturn, 1) := by decide +kernel
theorem dX11_isRest_0 : decode cX11_isRest 0 = .ok (.iconst 1, 1) := by decide +kernel
theorem dX11_isRest_1 : decode cX11_isRest 1 = .ok (.istore 5, 2) := by decide +kernel
theorem dX11_isRest_3 : decode cX11_isRest 3 = .ok (.iload 5, 2) := by decide +kernel
theorem dX11_isRest_5 : decode cX11_isRest 5 = .ok (.bipush 9, 2) := by decide +kernel
theorem dX11_isRest_7 : decode cX11_isRest 7 = .ok (.if_icmp .gt 54, 3) := by decide +kernel
theorem dX11_isRest_10 : decode cX11_isRest 10 = .ok (.aload_n 0, 1) := by decide +kernel
theorem dX11_isRest_11 : decode cX11_isRest 11 = .ok (.iload_n 1, 1) := by decide +kernel
theorem dX11_isRest_12 : decode cX11_isRest 12 = .ok (.iload 5, 2) := by decide +kernel
theorem dX11_isRest_14 : decode cX11_isRest 14 = .ok (.iload_n 3, 1) := by decide +kernel
theorem dX11_isRest_15 : decode cX11_isRest 15 = .ok (.iload 4, 2) := by decide +kernel
theorem dX11_isRest_17 : decode cX11_isRest 17 = .ok (.invokevirtual 432, 3) := by decide +kernel
theorem dX11_isRest_20 : decode cX11_isRest 20 = .ok (.aload_n 0, 1) := by decide +kernel
theorem dX11_isRest_21 : decode cX11_isRest 21 = .ok (.iload_n 1, 1) := by decide +kernel
theorem dX11_isRest_22 : decode cX11_isRest 22 = .ok (.iload_n 2, 1) := by decide +kernel
theorem dX11_isRest_23 : decode cX11_isRest 23 = .ok (.iload_n 3, 1) := by decide +kernel
theorem dX11_isRest_24 : decode cX11_isRest 24 = .ok (.iload 4, 2) := by decide +kernel
theorem dX11_isRest_26 : decode cX11_isRest 26 = .ok (.invokevirtual 432, 3) := by decide +kernel
theorem dX11_isRest_29 : decode cX11_isRest 29 = .ok (.if_icmp .gt 24, 3) := by decide +kernel
theorem dX11_isRest_32 : decode cX11_isRest 32 = .ok (.aload_n 0, 1) := by decide +kernel
theorem dX11_isRest_33 : decode cX11_isRest 33 = .ok (.iload_n 3, 1) := by decide +kernel
theorem dX11_isRest_34 : decode cX11_isRest 34 = .ok (.iload 5, 2) := by decide +kernel
theorem dX11_isRest_36 : decode cX11_isRest 36 = .ok (.iload_n 1, 1) := by decide +kernel
theorem dX11_isRest_37 : decode cX11_isRest 37 = .ok (.iload_n 2, 1) := by decide +kernel
theorem dX11_isRest_38 : decode cX11_isRest 38 = .ok (.invokevirtual 432, 3) := by decide +kernel
theorem dX11_isRest_41 : decode cX11_isRest 41 = .ok (.aload_n 0, 1) := by decide +kernel
theorem dX11_isRest_42 : decode cX11_isRest 42 = .ok (.iload_n 3, 1) := by decide +kernel
theorem dX11_isRest_43 : decode cX11_isRest 43 = .ok (.iload 4, 2) := by decide +kernel
theorem dX11_isRest_45 : decode cX11_isRest 45 = .ok (.iload_n 1, 1) := by decide +kernel
theorem dX11_isRest_46 : decode cX11_isRest 46 = .ok (.iload_n 2, 1) := by decide +kernel
theorem dX11_isRest_47 : decode cX11_isRest 47 = .ok (.invokevirtual 432, 3) := by decide +kernel
theorem dX11_isRest_50 : decode cX11_isRest 50 = .ok (.if_icmp .le 5, 3) := by decide +kernel
theorem dX11_isRest_53 : decode cX11_isRest 53 = .ok (.iconst 0, 1) := by decide +kernel
theorem dX11_isRest_54 : decode cX11_isRest 54 = .ok (.ireturn, 1) := by decide +kernel
theorem dX11_isRest_55 : decode cX11_isRest 55 = .ok (.iinc 5 1, 3) := by decide +kernel
theorem dX11_isRest_58 : decode cX11_isRest 58 = .ok (.goto (-55), 3) := by decide +kernel
theorem dX11_isRest_61 : decode cX11_isRest 61 = .ok (.iconst 1, 1) := by decide +kernel
theorem dX11_isRest_62 : decode cX11_isRest 62 = .ok (.ireturn, 1) := by decide +kernel
theorem dX11_rests_0 : decode cX11_rests 0 = .ok (.aload_n 0, 1) := by decide +kernel
theorem dX11_rests_1 : decode cX11_rests 1 = .ok (.iload_n 1, 1) := by decide +kernel
theorem dX11_rests_2 : decode cX11_rests 2 = .ok (.iload_n 2, 1) := by decide +kernel
theorem dX11_rests_3 : decode cX11_rests 3 = .ok (.invokevirtual 335, 3) := by decide +kernel
theorem dX11_rests_6 : decode cX11_rests 6 = .ok (.iconst (-1), 1) := by decide +kernel
theorem dX11_rests_7 : decode cX11_rests 7 = .ok (.if_icmp .ne 8, 3) := by decide +kernel
theorem dX11_rests_10 : decode cX11_rests 10 = .ok (.iload_n 3, 1) := by decide +kernel
theorem dX11_rests_11 : decode cX11_rests 11 = .ok (.iconst (-1), 1) := by decide +kernel
theorem dX11_rests_12 : decode cX11_rests 12 = .ok (.if_icmp .ge 5, 3) := by decide +kernel
theorem dX11_rests_15 : decode cX11_rests 15 = .ok (.iconst (-1), 1) := by decide +kernel
theorem dX11_rests_16 : decode cX11_rests 16 = .ok (.ireturn, 1) := by decide +kernel
theorem dX11_rests_17 : decode cX11_rests 17 = .ok (.iconst 0, 1) := by decide +kernel
theorem dX11_rests_18 : decode cX11_rests 18 = .ok (.istore 4, 2) := by decide +kernel
theorem dX11_rests_20 : decode cX11_rests 20 = .ok (.iconst 1, 1) := by decide +kernel
theorem dX11_rests_21 : decode cX11_rests 21 = .ok (.istore 5, 2) := by decide +kernel
theorem dX11_rests_23 : decode cX11_rests 23 = .ok (.iload 5, 2) := by decide +kernel
theorem dX11_rests_25 : decode cX11_rests 25 = .ok (.bipush 9, 2) := by decide +kernel
theorem dX11_rests_27 : decode cX11_rests 27 = .ok (.if_icmp .gt 56, 3) := by decide +kernel
theorem dX11_rests_30 : decode cX11_rests 30 = .ok (.iconst 1, 1) := by decide +kernel
theorem dX11_rests_31 : decode cX11_rests 31 = .ok (.istore 6, 2) := by decide +kernel
theorem dX11_rests_33 : decode cX11_rests 33 = .ok (.iload 6, 2) := by decide +kernel
theorem dX11_rests_35 : decode cX11_rests 35 = .ok (.bipush 9, 2) := by decide +kernel
theorem dX11_rests_37 : decode cX11_rests 37 = .ok (.if_icmp .gt 40, 3) := by decide +kernel
theorem dX11_rests_40 : decode cX11_rests 40 = .ok (.aload_n 0, 1) := by decide +kernel
theorem dX11_rests_41 : decode cX11_rests 41 = .ok (.iload_n 1, 1) := by decide +kernel
theorem dX11_rests_42 : decode cX11_rests 42 = .ok (.iload 5, 2) := by decide +kernel
theorem dX11_rests_44 : decode cX11_rests 44 = .ok (.iload_n 2, 1) := by decide +kernel
theorem dX11_rests_45 : decode cX11_rests 45 = .ok (.iload 6, 2) := by decide +kernel
theorem dX11_rests_47 : decode cX11_rests 47 = .ok (.invokevirtual 435, 3) := by decide +kernel
theorem dX11_rests_50 : decode cX11_rests 50 = .ok (.ifCond .eq 21, 3) := by decide +kernel
theorem dX11_rests_53 : decode cX11_rests 53 = .ok (.iload 4, 2) := by decide +kernel
theorem dX11_rests_55 : decode cX11_rests 55 = .ok (.iload_n 3, 1) := by decide +kernel
theorem dX11_rests_56 : decode cX11_rests 56 = .ok (.if_icmp .ne 12, 3) := by decide +kernel
theorem dX11_rests_59 : decode cX11_rests 59 = .ok (.bipush 10, 2) := by decide +kernel
theorem dX11_rests_61 : decode cX11_rests 61 = .ok (.iload 5, 2) := by decide +kernel
theorem dX11_rests_63 : decode cX11_rests 63 = .ok (.imul, 1) := by decide +kernel
theorem dX11_rests_64 : decode cX11_rests 64 = .ok (.iload 6, 2) := by decide +kernel
theorem dX11_rests_66 : decode cX11_rests 66 = .ok (.iadd, 1) := by decide +kernel
theorem dX11_rests_67 : decode cX11_rests 67 = .ok (.ireturn, 1) := by decide +kernel
theorem dX11_rests_68 : decode cX11_rests 68 = .ok (.iinc 4 1, 3) := by decide +kernel
theorem dX11_rests_71 : decode cX11_rests 71 = .ok (.iinc 6 1, 3) := by decide +kernel
theorem dX11_rests_74 : decode cX11_rests 74 = .ok (.goto (-41), 3) := by decide +kernel
theorem dX11_rests_77 : decode cX11_rests 77 = .ok (.iinc 5 1, 3) := by decide +kernel
theorem dX11_rests_80 : decode cX11_rests 80 = .ok (.goto (-57), 3) := by decide +kernel
theorem dX11_rests_83 : decode cX11_rests 83 = .ok (.iload_n 3, 1) := by decide +kernel
theorem dX11_rests_84 : decode cX11_rests 84 = .ok (.iconst (-1), 1) := by decide +kernel
theorem dX11_rests_85 : decode cX11_rests 85 = .ok (.if_icmp .ne 8, 3) := by decide +kernel
theorem dX11_rests_88 : decode cX11_rests 88 = .ok (.iload 4, 2) := by decide +kernel
theorem dX11_rests_90 : decode cX11_rests 90 = .ok (.goto 4, 3) := by decide +kernel
theorem dX11_rests_93 : decode cX11_rests 93 = .ok (.iconst (-1), 1) := by decide +kernel
theorem dX11_rests_94 : decode cX11_rests 94 = .ok (.ireturn, 1) := by decide +kernel
theorem dX11_corner_0 : decode cX11_corner 0 = .ok (.iconst (-1), 1) := by decide +kernel
theorem dX11_corner_1 : decode cX11_corner 1 = .ok (.istore_n 2, 1) := by decide +kernel
theorem dX11_corner_2 : decode cX11_corner 2 = .ok (.iload_n 1, 1) := by decide +kernel
theorem dX11_corner_3 : decode cX11_corner 3 = .ok (.invokestatic 404, 3) := by decide +kernel
theorem dX11_corner_6 : decode cX11_corner 6 = .ok (.istore_n 3, 1) := by decide +kernel
theorem dX11_corner_7 : decode cX11_corner 7 = .ok (.iconst 0, 1) := by decide +kernel
theorem dX11_corner_8 : decode cX11_corner 8 = .ok (.istore 4, 2) := by decide +kernel
theorem dX11_corner_10 : decode cX11_corner 10 = .ok (.iload 4, 2) := by decide +kernel
theorem dX11_corner_12 : decode cX11_corner 12 = .ok (.aload_n 0, 1) := by decide +kernel
theorem dX11_corner_13 : decode cX11_corner 13 = .ok (.getfield 261, 3) := by decide +kernel
theorem dX11_corner_16 : decode cX11_corner 16 = .ok (.if_icmp .ge 71, 3) := by decide +kernel
theorem dX11_corner_19 : decode cX11_corner 19 = .ok (.iload_n 3, 1) := by decide +kernel
theorem dX11_corner_20 : decode cX11_corner 20 = .ok (.ifCond .eq 67, 3) := by decide +kernel
theorem dX11_corner_23 : decode cX11_corner 23 = .ok (.aload_n 0, 1) := by decide +kernel
theorem dX11_corner_24 : decode cX11_corner 24 = .ok (.iload 4, 2) := by decide +kernel
theorem dX11_corner_26 : decode cX11_corner 26 = .ok (.iconst 1, 1) := by decide +kernel
theorem dX11_corner_27 : decode cX11_corner 27 = .ok (.invokevirtual 267, 3) := by decide +kernel
theorem dX11_corner_30 : decode cX11_corner 30 = .ok (.iload_n 1, 1) := by decide +kernel
theorem dX11_corner_31 : decode cX11_corner 31 = .ok (.if_icmp .ne 50, 3) := by decide +kernel
theorem dX11_corner_34 : decode cX11_corner 34 = .ok (.aload_n 0, 1) := by decide +kernel
theorem dX11_corner_35 : decode cX11_corner 35 = .ok (.getfield 64, 3) := by decide +kernel
theorem dX11_corner_38 : decode cX11_corner 38 = .ok (.iconst 0, 1) := by decide +kernel
theorem dX11_corner_39 : decode cX11_corner 39 = .ok (.iload 4, 2) := by decide +kernel
theorem dX11_corner_41 : decode cX11_corner 41 = .ok (.iadd, 1) := by decide +kernel
theorem dX11_corner_42 : decode cX11_corner 42 = .ok (.iaload, 1) := by decide +kernel
theorem dX11_corner_43 : decode cX11_corner 43 = .ok (.iconst (-1), 1) := by decide +kernel
theorem dX11_corner_44 : decode cX11_corner 44 = .ok (.if_icmp .eq 37, 3) := by decide +kernel
theorem dX11_corner_47 : decode cX11_corner 47 = .ok (.iload_n 2, 1) := by decide +kernel
theorem dX11_corner_48 : decode cX11_corner 48 = .ok (.iconst (-1), 1) := by decide +kernel
theorem dX11_corner_49 : decode cX11_corner 49 = .ok (.if_icmp .eq 16, 3) := by decide +kernel
theorem dX11_corner_52 : decode cX11_corner 52 = .ok (.iload_n 2, 1) := by decide +kernel
theorem dX11_corner_53 : decode cX11_corner 53 = .ok (.aload_n 0, 1) := by decide +kernel
theorem dX11_corner_54 : decode cX11_corner 54 = .ok (.getfield 64, 3) := by decide +kernel
theorem dX11_corner_57 : decode cX11_corner 57 = .ok (.iconst 0, 1) := by decide +kernel
theorem dX11_corner_58 : decode cX11_corner 58 = .ok (.iload 4, 2) := by decide +kernel
theorem dX11_corner_60 : decode cX11_corner 60 = .ok (.iadd, 1) := by decide +kernel
theorem dX11_corner_61 : decode cX11_corner 61 = .ok (.iaload, 1) := by decide +kernel
theorem dX11_corner_62 : decode cX11_corner 62 = .ok (.if_icmp .ne 7, 3) := by decide +kernel
theorem dX11_corner_65 : decode cX11_corner 65 = .ok (.iconst 1, 1) := by decide +kernel
theorem dX11_corner_66 : decode cX11_corner 66 = .ok (.goto 4, 3) := by decide +kernel
theorem dX11_corner_69 : decode cX11_corner 69 = .ok (.iconst 0, 1) := by decide +kernel
theorem dX11_corner_70 : decode cX11_corner 70 = .ok (.istore_n 3, 1) := by decide +kernel
theorem dX11_corner_71 : decode cX11_corner 71 = .ok (.aload_n 0, 1) := by decide +kernel
theorem dX11_corner_72 : decode cX11_corner 72 = .ok (.getfield 64, 3) := by decide +kernel
theorem dX11_corner_75 : decode cX11_corner 75 = .ok (.iconst 0, 1) := by decide +kernel
theorem dX11_corner_76 : decode cX11_corner 76 = .ok (.iload 4, 2) := by decide +kernel
theorem dX11_corner_78 : decode cX11_corner 78 = .ok (.iadd, 1) := by decide +kernel
theorem dX11_corner_79 : decode cX11_corner 79 = .ok (.iaload, 1) := by decide +kernel
theorem dX11_corner_80 : decode cX11_corner 80 = .ok (.istore_n 2, 1) := by decide +kernel
theorem dX11_corner_81 : decode cX11_corner 81 = .ok (.iinc 4 1, 3) := by decide +kernel
theorem dX11_corner_84 : decode cX11_corner 84 = .ok (.goto (-74), 3) := by decide +kernel
theorem dX11_corner_87 : decode cX11_corner 87 = .ok (.iload_n 3, 1) := by decide +kernel
theorem dX11_corner_88 : decode cX11_corner 88 = .ok (.ifCond .eq 7, 3) := by decide +kernel
theorem dX11_corner_91 : decode cX11_corner 91 = .ok (.iload_n 2, 1) := by decide +kernel
theorem dX11_corner_92 : decode cX11_corner 92 = .ok (.goto 4, 3) := by decide +kernel
theorem dX11_corner_95 : decode cX11_corner 95 = .ok (.iconst (-1), 1) := by decide +kernel
theorem dX11_corner_96 : decode cX11_corner 96 = .ok (.ireturn, 1) := by decide +kernel
theorem dX11_likingOf_0 : decode cX11_likingOf 0 = .ok (.iconst 0, 1) := by decide +kernel
theorem dX11_likingOf_1 : decode cX11_likingOf 1 = .ok (.istore_n 3, 1) := by decide +kernel
theorem dX11_likingOf_2 : decode cX11_likingOf 2 = .ok (.iconst 0, 1) := by decide +kernel
theorem dX11_likingOf_3 : decode cX11_likingOf 3 = .ok (.istore 4, 2) := by decide +kernel
theorem dX11_likingOf_5 : decode cX11_likingOf 5 = .ok (.iload 4, 2) := by decide +kernel
theorem dX11_likingOf_7 : decode cX11_likingOf 7 = .ok (.aload_n 0, 1) := by decide +kernel
theorem dX11_likingOf_8 : decode cX11_likingOf 8 = .ok (.getfield 264, 3) := by decide +kernel
theorem dX11_likingOf_11 : decode cX11_likingOf 11 = .ok (.if_icmp .ge 51, 3) := by decide +kernel
theorem dX11_likingOf_14 : decode cX11_likingOf 14 = .ok (.aload_n 0, 1) := by decide +kernel
theorem dX11_likingOf_15 : decode cX11_likingOf 15 = .ok (.iload 4, 2) := by decide +kernel
theorem dX11_likingOf_17 : decode cX11_likingOf 17 = .ok (.iconst 0, 1) := by decide +kernel
theorem dX11_likingOf_18 : decode cX11_likingOf 18 = .ok (.invokevirtual 316, 3) := by decide +kernel
theorem dX11_likingOf_21 : decode cX11_likingOf 21 = .ok (.aload_n 0, 1) := by decide +kernel
theorem dX11_likingOf_22 : decode cX11_likingOf 22 = .ok (.getfield 55, 3) := by decide +kernel
theorem dX11_likingOf_25 : decode cX11_likingOf 25 = .ok (.iconst 2, 1) := by decide +kernel
theorem dX11_likingOf_26 : decode cX11_likingOf 26 = .ok (.iload_n 1, 1) := by decide +kernel
theorem dX11_likingOf_27 : decode cX11_likingOf 27 = .ok (.imul, 1) := by decide +kernel
theorem dX11_likingOf_28 : decode cX11_likingOf 28 = .ok (.iconst 1, 1) := by decide +kernel
theorem dX11_likingOf_29 : decode cX11_likingOf 29 = .ok (.iadd, 1) := by decide +kernel
theorem dX11_likingOf_30 : decode cX11_likingOf 30 = .ok (.iaload, 1) := by decide +kernel
theorem dX11_likingOf_31 : decode cX11_likingOf 31 = .ok (.if_icmp .ne 23, 3) := by decide +kernel
theorem dX11_likingOf_34 : decode cX11_likingOf 34 = .ok (.aload_n 0, 1) := by decide +kernel
theorem dX11_likingOf_35 : decode cX11_likingOf 35 = .ok (.iload 4, 2) := by decide +kernel
theorem dX11_likingOf_37 : decode cX11_likingOf 37 = .ok (.iconst 1, 1) := by decide +kernel
theorem dX11_likingOf_38 : decode cX11_likingOf 38 = .ok (.invokevirtual 316, 3) := by decide +kernel
theorem dX11_likingOf_41 : decode cX11_likingOf 41 = .ok (.aload_n 0, 1) := by decide +kernel
theorem dX11_likingOf_42 : decode cX11_likingOf 42 = .ok (.iload_n 2, 1) := by decide +kernel
theorem dX11_likingOf_43 : decode cX11_likingOf 43 = .ok (.iconst 1, 1) := by decide +kernel
theorem dX11_likingOf_44 : decode cX11_likingOf 44 = .ok (.invokevirtual 267, 3) := by decide +kernel
theorem dX11_likingOf_47 : decode cX11_likingOf 47 = .ok (.if_icmp .ne 7, 3) := by decide +kernel
theorem dX11_likingOf_50 : decode cX11_likingOf 50 = .ok (.iconst 5, 1) := by decide +kernel
theorem dX11_likingOf_51 : decode cX11_likingOf 51 = .ok (.goto 4, 3) := by decide +kernel
theorem dX11_likingOf_54 : decode cX11_likingOf 54 = .ok (.iload_n 3, 1) := by decide +kernel
theorem dX11_likingOf_55 : decode cX11_likingOf 55 = .ok (.istore_n 3, 1) := by decide +kernel
theorem dX11_likingOf_56 : decode cX11_likingOf 56 = .ok (.iinc 4 1, 3) := by decide +kernel
theorem dX11_likingOf_59 : decode cX11_likingOf 59 = .ok (.goto (-54), 3) := by decide +kernel
theorem dX11_likingOf_62 : decode cX11_likingOf 62 = .ok (.aload_n 0, 1) := by decide +kernel
theorem dX11_likingOf_63 : decode cX11_likingOf 63 = .ok (.iload_n 2, 1) := by decide +kernel
theorem dX11_likingOf_64 : decode cX11_likingOf 64 = .ok (.invokevirtual 310, 3) := by decide +kernel
theorem dX11_likingOf_67 : decode cX11_likingOf 67 = .ok (.iload_n 3, 1) := by decide +kernel
theorem dX11_likingOf_68 : decode cX11_likingOf 68 = .ok (.iadd, 1) := by decide +kernel
theorem dX11_likingOf_69 : decode cX11_likingOf 69 = .ok (.ireturn, 1) := by decide +kernel
theorem dX11_liking_0 : decode cX11_liking 0 = .ok (.aload_n 0, 1) := by decide +kernel
theorem dX11_liking_1 : decode cX11_liking 1 = .ok (.iload_n 1, 1) := by decide +kernel
theorem dX11_liking_2 : decode cX11_liking 2 = .ok (.invokevirtual 325, 3) := by decide +kernel
theorem dX11_liking_5 : decode cX11_liking 5 = .ok (.ifCond .eq 20, 3) := by decide +kernel
theorem dX11_liking_8 : decode cX11_liking 8 = .ok (.aload_n 0, 1) := by decide +kernel
theorem dX11_liking_9 : decode cX11_liking 9 = .ok (.iload_n 2, 1) := by decide +kernel
theorem dX11_liking_10 : decode cX11_liking 10 = .ok (.invokevirtual 328, 3) := by decide +kernel
theorem dX11_liking_13 : decode cX11_liking 13 = .ok (.ifCond .eq 12, 3) := by decide +kernel
theorem dX11_liking_16 : decode cX11_liking 16 = .ok (.aload_n 0, 1) := by decide +kernel
theorem dX11_liking_17 : decode cX11_liking 17 = .ok (.iload_n 1, 1) := by decide +kernel
theorem dX11_liking_18 : decode cX11_liking 18 = .ok (.iload_n 2, 1) := by decide +kernel
theorem dX11_liking_19 : decode cX11_liking 19 = .ok (.invokevirtual 439, 3) := by decide +kernel
theorem dX11_liking_22 : decode cX11_liking 22 = .ok (.goto 4, 3) := by decide +kernel
theorem dX11_liking_25 : decode cX11_liking 25 = .ok (.iconst (-1), 1) := by decide +kernel
theorem dX11_liking_26 : decode cX11_liking 26 = .ok (.ireturn, 1) := by decide +kernel
theorem dX11_isTrade_0 : decode cX11_isTrade 0 = .ok (.aload_n 0, 1) := by decide +kernel
theorem dX11_isTrade_1 : decode cX11_isTrade 1 = .ok (.iload_n 1, 1) := by decide +kernel
theorem dX11_isTrade_2 : decode cX11_isTrade 2 = .ok (.iload_n 2, 1) := by decide +kernel
theorem dX11_isTrade_3 : decode cX11_isTrade 3 = .ok (.invokevirtual 335, 3) := by decide +kernel
theorem dX11_isTrade_6 : decode cX11_isTrade 6 = .ok (.iconst (-1), 1) := by decide +kernel
theorem dX11_isTrade_7 : decode cX11_isTrade 7 = .ok (.if_icmp .eq 5, 3) := by decide +kernel
theorem dX11_isTrade_10 : decode cX11_isTrade 10 = .ok (.iconst 0, 1) := by decide +kernel
theorem dX11_isTrade_11 : decode cX11_isTrade 11 = .ok (.ireturn, 1) := by decide +kernel
theorem dX11_isTrade_12 : decode cX11_isTrade 12 = .ok (.aload_n 0, 1) := by decide +kernel
theorem dX11_isTrade_13 : decode cX11_isTrade 13 = .ok (.getfield 64, 3) := by decide +kernel
theorem dX11_isTrade_16 : decode cX11_isTrade 16 = .ok (.iconst 0, 1) := by decide +kernel
theorem dX11_isTrade_17 : decode cX11_isTrade 17 = .ok (.iload_n 1, 1) := by decide +kernel
theorem dX11_isTrade_18 : decode cX11_isTrade 18 = .ok (.iadd, 1) := by decide +kernel
theorem dX11_isTrade_19 : decode cX11_isTrade 19 = .ok (.iaload, 1) := by decide +kernel
theorem dX11_isTrade_20 : decode cX11_isTrade 20 = .ok (.istore_n 3, 1) := by decide +kernel
theorem dX11_isTrade_21 : decode cX11_isTrade 21 = .ok (.aload_n 0, 1) := by decide +kernel
theorem dX11_isTrade_22 : decode cX11_isTrade 22 = .ok (.getfield 64, 3) := by decide +kernel
theorem dX11_isTrade_25 : decode cX11_isTrade 25 = .ok (.iconst 0, 1) := by decide +kernel
theorem dX11_isTrade_26 : decode cX11_isTrade 26 = .ok (.iload_n 2, 1) := by decide +kernel
theorem dX11_isTrade_27 : decode cX11_isTrade 27 = .ok (.iadd, 1) := by decide +kernel
theorem dX11_isTrade_28 : decode cX11_isTrade 28 = .ok (.iaload, 1) := by decide +kernel
theorem dX11_isTrade_29 : decode cX11_isTrade 29 = .ok (.istore 4, 2) := by decide +kernel
theorem dX11_isTrade_31 : decode cX11_isTrade 31 = .ok (.aload_n 0, 1) := by decide +kernel
theorem dX11_isTrade_32 : decode cX11_isTrade 32 = .ok (.iload_n 3, 1) := by decide +kernel
theorem dX11_isTrade_33 : decode cX11_isTrade 33 = .ok (.iload_n 2, 1) := by decide +kernel
theorem dX11_isTrade_34 : decode cX11_isTrade 34 = .ok (.invokevirtual 439, 3) := by decide +kernel
theorem dX11_isTrade_37 : decode cX11_isTrade 37 = .ok (.aload_n 0, 1) := by decide +kernel
theorem dX11_isTrade_38 : decode cX11_isTrade 38 = .ok (.iload_n 3, 1) := by decide +kernel
theorem dX11_isTrade_39 : decode cX11_isTrade 39 = .ok (.iload_n 1, 1) := by decide +kernel
theorem dX11_isTrade_40 : decode cX11_isTrade 40 = .ok (.invokevirtual 439, 3) := by decide +kernel
theorem dX11_isTrade_43 : decode cX11_isTrade 43 = .ok (.if_icmp .le 24, 3) := by decide +kernel
theorem dX11_isTrade_46 : decode cX11_isTrade 46 = .ok (.aload_n 0, 1) := by decide +kernel
theorem dX11_isTrade_47 : decode cX11_isTrade 47 = .ok (.iload 4, 2) := by decide +kernel
theorem dX11_isTrade_49 : decode cX11_isTrade 49 = .ok (.iload_n 1, 1) := by decide +kernel
theorem dX11_isTrade_50 : decode cX11_isTrade 50 = .ok (.invokevirtual 439, 3) := by decide +kernel
theorem dX11_isTrade_53 : decode cX11_isTrade 53 = .ok (.aload_n 0, 1) := by decide +kernel
theorem dX11_isTrade_54 : decode cX11_isTrade 54 = .ok (.iload 4, 2) := by decide +kernel
theorem dX11_isTrade_56 : decode cX11_isTrade 56 = .ok (.iload_n 2, 1) := by decide +kernel
theorem dX11_isTrade_57 : decode cX11_isTrade 57 = .ok (.invokevirtual 439, 3) := by decide +kernel
theorem dX11_isTrade_60 : decode cX11_isTrade 60 = .ok (.if_icmp .le 7, 3) := by decide +kernel
theorem dX11_isTrade_63 : decode cX11_isTrade 63 = .ok (.iconst 1, 1) := by decide +kernel
theorem dX11_isTrade_64 : decode cX11_isTrade 64 = .ok (.goto 4, 3) := by decide +kernel
theorem dX11_isTrade_67 : decode cX11_isTrade 67 = .ok (.iconst 0, 1) := by decide +kernel
theorem dX11_isTrade_68 : decode cX11_isTrade 68 = .ok (.ireturn, 1) := by decide +kernel
theorem dX11_trades_0 : decode cX11_trades 0 = .ok (.aload_n 0, 1) := by decide +kernel
theorem dX11_trades_1 : decode cX11_trades 1 = .ok (.getfield 261, 3) := by decide +kernel
theorem dX11_trades_4 : decode cX11_trades 4 = .ok (.ifCond .eq 8, 3) := by decide +kernel
theorem dX11_trades_7 : decode cX11_trades 7 = .ok (.iload_n 1, 1) := by decide +kernel
theorem dX11_trades_8 : decode cX11_trades 8 = .ok (.iconst (-1), 1) := by decide +kernel
theorem dX11_trades_9 : decode cX11_trades 9 = .ok (.if_icmp .ge 5, 3) := by decide +kernel
theorem dX11_trades_12 : decode cX11_trades 12 = .ok (.iconst (-1), 1) := by decide +kernel
theorem dX11_trades_13 : decode cX11_trades 13 = .ok (.ireturn, 1) := by decide +kernel
theorem dX11_trades_14 : decode cX11_trades 14 = .ok (.iconst 0, 1) := by decide +kernel
theorem dX11_trades_15 : decode cX11_trades 15 = .ok (.istore_n 2, 1) := by decide +kernel
theorem dX11_trades_16 : decode cX11_trades 16 = .ok (.iconst 0, 1) := by decide +kernel
theorem dX11_trades_17 : decode cX11_trades 17 = .ok (.istore_n 3, 1) := by decide +kernel
theorem dX11_trades_18 : decode cX11_trades 18 = .ok (.iload_n 3, 1) := by decide +kernel
theorem dX11_trades_19 : decode cX11_trades 19 = .ok (.aload_n 0, 1) := by decide +kernel
theorem dX11_trades_20 : decode cX11_trades 20 = .ok (.getfield 261, 3) := by decide +kernel
theorem dX11_trades_23 : decode cX11_trades 23 = .ok (.if_icmp .ge 55, 3) := by decide +kernel
theorem dX11_trades_26 : decode cX11_trades 26 = .ok (.iload_n 3, 1) := by decide +kernel
theorem dX11_trades_27 : decode cX11_trades 27 = .ok (.iconst 1, 1) := by decide +kernel
theorem dX11_trades_28 : decode cX11_trades 28 = .ok (.iadd, 1) := by decide +kernel
theorem dX11_trades_29 : decode cX11_trades 29 = .ok (.istore 4, 2) := by decide +kernel
theorem dX11_trades_31 : decode cX11_trades 31 = .ok (.iload 4, 2) := by decide +kernel
theorem dX11_trades_33 : decode cX11_trades 33 = .ok (.aload_n 0, 1) := by decide +kernel
theorem dX11_trades_34 : decode cX11_trades 34 = .ok (.getfield 261, 3) := by decide +kernel
theorem dX11_trades_37 : decode cX11_trades 37 = .ok (.if_icmp .ge 35, 3) := by decide +kernel
theorem dX11_trades_40 : decode cX11_trades 40 = .ok (.aload_n 0, 1) := by decide +kernel
theorem dX11_trades_41 : decode cX11_trades 41 = .ok (.iload_n 3, 1) := by decide +kernel
theorem dX11_trades_42 : decode cX11_trades 42 = .ok (.iload 4, 2) := by decide +kernel
theorem dX11_trades_44 : decode cX11_trades 44 = .ok (.invokevirtual 442, 3) := by decide +kernel
theorem dX11_trades_47 : decode cX11_trades 47 = .ok (.ifCond .eq 19, 3) := by decide +kernel
theorem dX11_trades_50 : decode cX11_trades 50 = .ok (.iload_n 2, 1) := by decide +kernel
theorem dX11_trades_51 : decode cX11_trades 51 = .ok (.iload_n 1, 1) := by decide +kernel
theorem dX11_trades_52 : decode cX11_trades 52 = .ok (.if_icmp .ne 11, 3) := by decide +kernel
theorem dX11_trades_55 : decode cX11_trades 55 = .ok (.bipush 10, 2) := by decide +kernel
theorem dX11_trades_57 : decode cX11_trades 57 = .ok (.iload_n 3, 1) := by decide +kernel
theorem dX11_trades_58 : decode cX11_trades 58 = .ok (.imul, 1) := by decide +kernel
theorem dX11_trades_59 : decode cX11_trades 59 = .ok (.iload 4, 2) := by decide +kernel
theorem dX11_trades_61 : decode cX11_trades 61 = .ok (.iadd, 1) := by decide +kernel
theorem dX11_trades_62 : decode cX11_trades 62 = .ok (.ireturn, 1) := by decide +kernel
theorem dX11_trades_63 : decode cX11_trades 63 = .ok (.iinc 2 1, 3) := by decide +kernel
theorem dX11_trades_66 : decode cX11_trades 66 = .ok (.iinc 4 1, 3) := by decide +kernel
theorem dX11_trades_69 : decode cX11_trades 69 = .ok (.goto (-38), 3) := by decide +kernel
theorem dX11_trades_72 : decode cX11_trades 72 = .ok (.iinc 3 1, 3) := by decide +kernel
theorem dX11_trades_75 : decode cX11_trades 75 = .ok (.goto (-57), 3) := by decide +kernel
theorem dX11_trades_78 : decode cX11_trades 78 = .ok (.iload_n 1, 1) := by decide +kernel
theorem dX11_trades_79 : decode cX11_trades 79 = .ok (.iconst (-1), 1) := by decide +kernel
theorem dX11_trades_80 : decode cX11_trades 80 = .ok (.if_icmp .ne 7, 3) := by decide +kernel
theorem dX11_trades_83 : decode cX11_trades 83 = .ok (.iload_n 2, 1) := by decide +kernel
theorem dX11_trades_84 : decode cX11_trades 84 = .ok (.goto 4, 3) := by decide +kernel
theorem dX11_trades_87 : decode cX11_trades 87 = .ok (.iconst (-1), 1) := by decide +kernel
theorem dX11_trades_88 : decode cX11_trades 88 = .ok (.ireturn, 1) := by decide +kernel
theorem dX11_partBy_0 : decode cX11_partBy 0 = .ok (.iload_n 0, 1) := by decide +kernel
theorem dX11_partBy_1 : decode cX11_partBy 1 = .ok (.i2l, 1) := by decide +kernel
theorem dX11_partBy_2 : decode cX11_partBy 2 = .ok (.iload_n 1, 1) := by decide +kernel
theorem dX11_partBy_3 : decode cX11_partBy 3 = .ok (.i2l, 1) := by decide +kernel
theorem dX11_partBy_4 : decode cX11_partBy 4 = .ok (.lmul, 1) := by decide +kernel
theorem dX11_partBy_5 : decode cX11_partBy 5 = .ok (.ldc2_w 445, 3) := by decide +kernel
theorem dX11_partBy_8 : decode cX11_partBy 8 = .ok (.ldiv, 1) := by decide +kernel
theorem dX11_partBy_9 : decode cX11_partBy 9 = .ok (.l2i, 1) := by decide +kernel
theorem dX11_partBy_10 : decode cX11_partBy 10 = .ok (.istore_n 3, 1) := by decide +kernel
theorem dX11_partBy_11 : decode cX11_partBy 11 = .ok (.iload_n 2, 1) := by decide +kernel
theorem dX11_partBy_12 : decode cX11_partBy 12 = .ok (.ifCond .ne 9, 3) := by decide +kernel
theorem dX11_partBy_15 : decode cX11_partBy 15 = .ok (.iload_n 0, 1) := by decide +kernel
theorem dX11_partBy_16 : decode cX11_partBy 16 = .ok (.iload_n 3, 1) := by decide +kernel
theorem dX11_partBy_17 : decode cX11_partBy 17 = .ok (.isub, 1) := by decide +kernel
theorem dX11_partBy_18 : decode cX11_partBy 18 = .ok (.goto 19, 3) := by decide +kernel
theorem dX11_partBy_21 : decode cX11_partBy 21 = .ok (.iload_n 2, 1) := by decide +kernel
theorem dX11_partBy_22 : decode cX11_partBy 22 = .ok (.iconst 1, 1) := by decide +kernel
theorem dX11_partBy_23 : decode cX11_partBy 23 = .ok (.if_icmp .ne 9, 3) := by decide +kernel
theorem dX11_partBy_26 : decode cX11_partBy 26 = .ok (.iload_n 3, 1) := by decide +kernel
theorem dX11_partBy_27 : decode cX11_partBy 27 = .ok (.iconst 2, 1) := by decide +kernel
theorem dX11_partBy_28 : decode cX11_partBy 28 = .ok (.idiv, 1) := by decide +kernel
theorem dX11_partBy_29 : decode cX11_partBy 29 = .ok (.goto 8, 3) := by decide +kernel
theorem dX11_partBy_32 : decode cX11_partBy 32 = .ok (.iload_n 3, 1) := by decide +kernel
theorem dX11_partBy_33 : decode cX11_partBy 33 = .ok (.iload_n 3, 1) := by decide +kernel
theorem dX11_partBy_34 : decode cX11_partBy 34 = .ok (.iconst 2, 1) := by decide +kernel
theorem dX11_partBy_35 : decode cX11_partBy 35 = .ok (.idiv, 1) := by decide +kernel
theorem dX11_partBy_36 : decode cX11_partBy 36 = .ok (.isub, 1) := by decide +kernel
theorem dX11_partBy_37 : decode cX11_partBy 37 = .ok (.ireturn, 1) := by decide +kernel
theorem dX11_cellBy_0 : decode cX11_cellBy 0 = .ok (.iload_n 1, 1) := by decide +kernel
theorem dX11_cellBy_1 : decode cX11_cellBy 1 = .ok (.ifCond .ne 7, 3) := by decide +kernel
theorem dX11_cellBy_4 : decode cX11_cellBy 4 = .ok (.iload_n 0, 1) := by decide +kernel
theorem dX11_cellBy_5 : decode cX11_cellBy 5 = .ok (.goto 21, 3) := by decide +kernel
theorem dX11_cellBy_8 : decode cX11_cellBy 8 = .ok (.iload_n 1, 1) := by decide +kernel
theorem dX11_cellBy_9 : decode cX11_cellBy 9 = .ok (.iconst 1, 1) := by decide +kernel
theorem dX11_cellBy_10 : decode cX11_cellBy 10 = .ok (.if_icmp .ne 13, 3) := by decide +kernel
theorem dX11_cellBy_13 : decode cX11_cellBy 13 = .ok (.iconst 0, 1) := by decide +kernel
theorem dX11_cellBy_14 : decode cX11_cellBy 14 = .ok (.iload_n 0, 1) := by decide +kernel
theorem dX11_cellBy_15 : decode cX11_cellBy 15 = .ok (.iconst 1, 1) := by decide +kernel
theorem dX11_cellBy_16 : decode cX11_cellBy 16 = .ok (.isub, 1) := by decide +kernel
theorem dX11_cellBy_17 : decode cX11_cellBy 17 = .ok (.invokestatic 299, 3) := by decide +kernel
theorem dX11_cellBy_20 : decode cX11_cellBy 20 = .ok (.goto 6, 3) := by decide +kernel
theorem dX11_cellBy_23 : decode cX11_cellBy 23 = .ok (.iload_n 0, 1) := by decide +kernel
theorem dX11_cellBy_24 : decode cX11_cellBy 24 = .ok (.iconst 1, 1) := by decide +kernel
theorem dX11_cellBy_25 : decode cX11_cellBy 25 = .ok (.iadd, 1) := by decide +kernel
theorem dX11_cellBy_26 : decode cX11_cellBy 26 = .ok (.ireturn, 1) := by decide +kernel
theorem dX11_odds_0 : decode cX11_odds 0 = .ok (.aload_n 0, 1) := by decide +kernel
theorem dX11_odds_1 : decode cX11_odds 1 = .ok (.iload_n 1, 1) := by decide +kernel
theorem dX11_odds_2 : decode cX11_odds 2 = .ok (.iload_n 2, 1) := by decide +kernel
theorem dX11_odds_3 : decode cX11_odds 3 = .ok (.iload_n 3, 1) := by decide +kernel
theorem dX11_odds_4 : decode cX11_odds 4 = .ok (.iload 4, 2) := by decide +kernel
theorem dX11_odds_6 : decode cX11_odds 6 = .ok (.invokevirtual 350, 3) := by decide +kernel
theorem dX11_odds_9 : decode cX11_odds 9 = .ok (.iconst (-1), 1) := by decide +kernel
theorem dX11_odds_10 : decode cX11_odds 10 = .ok (.if_icmp .ne 14, 3) := by decide +kernel
theorem dX11_odds_13 : decode cX11_odds 13 = .ok (.iload 5, 2) := by decide +kernel
theorem dX11_odds_15 : decode cX11_odds 15 = .ok (.iconst 0, 1) := by decide +kernel
theorem dX11_odds_16 : decode cX11_odds 16 = .ok (.bipush 100, 2) := by decide +kernel
theorem dX11_odds_18 : decode cX11_odds 18 = .ok (.invokestatic 208, 3) := by decide +kernel
theorem dX11_odds_21 : decode cX11_odds 21 = .ok (.ifCond .ne 5, 3) := by decide +kernel
theorem dX11_odds_24 : decode cX11_odds 24 = .ok (.iconst (-1), 1) := by decide +kernel
theorem dX11_odds_25 : decode cX11_odds 25 = .ok (.ireturn, 1) := by decide +kernel
theorem dX11_odds_26 : decode cX11_odds 26 = .ok (.aload_n 0, 1) := by decide +kernel
theorem dX11_odds_27 : decode cX11_odds 27 = .ok (.iload_n 1, 1) := by decide +kernel
theorem dX11_odds_28 : decode cX11_odds 28 = .ok (.iload_n 2, 1) := by decide +kernel
theorem dX11_odds_29 : decode cX11_odds 29 = .ok (.invokevirtual 344, 3) := by decide +kernel
theorem dX11_odds_32 : decode cX11_odds 32 = .ok (.istore 6, 2) := by decide +kernel
theorem dX11_odds_34 : decode cX11_odds 34 = .ok (.aload_n 0, 1) := by decide +kernel
theorem dX11_odds_35 : decode cX11_odds 35 = .ok (.iload_n 3, 1) := by decide +kernel
theorem dX11_odds_36 : decode cX11_odds 36 = .ok (.iload 4, 2) := by decide +kernel
theorem dX11_odds_38 : decode cX11_odds 38 = .ok (.invokevirtual 344, 3) := by decide +kernel
theorem dX11_odds_41 : decode cX11_odds 41 = .ok (.istore 7, 2) := by decide +kernel
theorem dX11_odds_43 : decode cX11_odds 43 = .ok (.iconst 0, 1) := by decide +kernel
theorem dX11_odds_44 : decode cX11_odds 44 = .ok (.istore 8, 2) := by decide +kernel
theorem dX11_odds_46 : decode cX11_odds 46 = .ok (.iconst 0, 1) := by decide +kernel
theorem dX11_odds_47 : decode cX11_odds 47 = .ok (.istore 9, 2) := by decide +kernel
theorem dX11_odds_49 : decode cX11_odds 49 = .ok (.iload 9, 2) := by decide +kernel
theorem dX11_odds_51 : decode cX11_odds 51 = .ok (.iconst 3, 1) := by decide +kernel
theorem dX11_odds_52 : decode cX11_odds 52 = .ok (.if_icmp .ge 76, 3) := by decide +kernel
theorem dX11_odds_55 : decode cX11_odds 55 = .ok (.ldc_w 447, 3) := by decide +kernel
theorem dX11_odds_58 : decode cX11_odds 58 = .ok (.iload 5, 2) := by decide +kernel
theorem dX11_odds_60 : decode cX11_odds 60 = .ok (.iload 9, 2) := by decide +kernel
theorem dX11_odds_62 : decode cX11_odds 62 = .ok (.invokestatic 448, 3) := by decide +kernel
theorem dX11_odds_65 : decode cX11_odds 65 = .ok (.istore 10, 2) := by decide +kernel
theorem dX11_odds_67 : decode cX11_odds 67 = .ok (.iconst 0, 1) := by decide +kernel
theorem dX11_odds_68 : decode cX11_odds 68 = .ok (.istore 11, 2) := by decide +kernel
theorem dX11_odds_70 : decode cX11_odds 70 = .ok (.iload 11, 2) := by decide +kernel
theorem dX11_odds_72 : decode cX11_odds 72 = .ok (.iconst 3, 1) := by decide +kernel
theorem dX11_odds_73 : decode cX11_odds 73 = .ok (.if_icmp .ge 49, 3) := by decide +kernel
theorem dX11_odds_76 : decode cX11_odds 76 = .ok (.iload 8, 2) := by decide +kernel
theorem dX11_odds_78 : decode cX11_odds 78 = .ok (.aload_n 0, 1) := by decide +kernel
theorem dX11_odds_79 : decode cX11_odds 79 = .ok (.iload 6, 2) := by decide +kernel
theorem dX11_odds_81 : decode cX11_odds 81 = .ok (.iload 9, 2) := by decide +kernel
theorem dX11_odds_83 : decode cX11_odds 83 = .ok (.invokestatic 451, 3) := by decide +kernel
theorem dX11_odds_86 : decode cX11_odds 86 = .ok (.iload 7, 2) := by decide +kernel
theorem dX11_odds_88 : decode cX11_odds 88 = .ok (.iload 11, 2) := by decide +kernel
theorem dX11_odds_90 : decode cX11_odds 90 = .ok (.invokestatic 451, 3) := by decide +kernel
theorem dX11_odds_93 : decode cX11_odds 93 = .ok (.invokevirtual 347, 3) := by decide +kernel
theorem dX11_odds_96 : decode cX11_odds 96 = .ok (.iconst 1, 1) := by decide +kernel
theorem dX11_odds_97 : decode cX11_odds 97 = .ok (.if_icmp .ne 15, 3) := by decide +kernel
theorem dX11_odds_100 : decode cX11_odds 100 = .ok (.iload 10, 2) := by decide +kernel
theorem dX11_odds_102 : decode cX11_odds 102 = .ok (.iload 5, 2) := by decide +kernel
theorem dX11_odds_104 : decode cX11_odds 104 = .ok (.iload 11, 2) := by decide +kernel
theorem dX11_odds_106 : decode cX11_odds 106 = .ok (.invokestatic 448, 3) := by decide +kernel
theorem dX11_odds_109 : decode cX11_odds 109 = .ok (.goto 4, 3) := by decide +kernel
theorem dX11_odds_112 : decode cX11_odds 112 = .ok (.iconst 0, 1) := by decide +kernel
theorem dX11_odds_113 : decode cX11_odds 113 = .ok (.iadd, 1) := by decide +kernel
theorem dX11_odds_114 : decode cX11_odds 114 = .ok (.istore 8, 2) := by decide +kernel
theorem dX11_odds_116 : decode cX11_odds 116 = .ok (.iinc 11 1, 3) := by decide +kernel
theorem dX11_odds_119 : decode cX11_odds 119 = .ok (.goto (-49), 3) := by decide +kernel
theorem dX11_odds_122 : decode cX11_odds 122 = .ok (.iinc 9 1, 3) := by decide +kernel
theorem dX11_odds_125 : decode cX11_odds 125 = .ok (.goto (-76), 3) := by decide +kernel
theorem dX11_odds_128 : decode cX11_odds 128 = .ok (.iload 8, 2) := by decide +kernel
theorem dX11_odds_130 : decode cX11_odds 130 = .ok (.ireturn, 1) := by decide +kernel
theorem dX11_sizesOf_0 : decode cX11_sizesOf 0 = .ok (.iconst 0, 1) := by decide +kernel
theorem dX11_sizesOf_1 : decode cX11_sizesOf 1 = .ok (.istore_n 2, 1) := by decide +kernel
theorem dX11_sizesOf_2 : decode cX11_sizesOf 2 = .ok (.iconst 0, 1) := by decide +kernel
theorem dX11_sizesOf_3 : decode cX11_sizesOf 3 = .ok (.istore_n 3, 1) := by decide +kernel
theorem dX11_sizesOf_4 : decode cX11_sizesOf 4 = .ok (.iload_n 3, 1) := by decide +kernel
theorem dX11_sizesOf_5 : decode cX11_sizesOf 5 = .ok (.aload_n 0, 1) := by decide +kernel
theorem dX11_sizesOf_6 : decode cX11_sizesOf 6 = .ok (.getfield 261, 3) := by decide +kernel
theorem dX11_sizesOf_9 : decode cX11_sizesOf 9 = .ok (.if_icmp .ge 30, 3) := by decide +kernel
theorem dX11_sizesOf_12 : decode cX11_sizesOf 12 = .ok (.iload_n 2, 1) := by decide +kernel
theorem dX11_sizesOf_13 : decode cX11_sizesOf 13 = .ok (.iload_n 1, 1) := by decide +kernel
theorem dX11_sizesOf_14 : decode cX11_sizesOf 14 = .ok (.iload_n 3, 1) := by decide +kernel
theorem dX11_sizesOf_15 : decode cX11_sizesOf 15 = .ok (.invokestatic 219, 3) := by decide +kernel
theorem dX11_sizesOf_18 : decode cX11_sizesOf 18 = .ok (.ifCond .eq 12, 3) := by decide +kernel
theorem dX11_sizesOf_21 : decode cX11_sizesOf 21 = .ok (.aload_n 0, 1) := by decide +kernel
theorem dX11_sizesOf_22 : decode cX11_sizesOf 22 = .ok (.iload_n 3, 1) := by decide +kernel
theorem dX11_sizesOf_23 : decode cX11_sizesOf 23 = .ok (.iconst 2, 1) := by decide +kernel
theorem dX11_sizesOf_24 : decode cX11_sizesOf 24 = .ok (.invokevirtual 267, 3) := by decide +kernel
theorem dX11_sizesOf_27 : decode cX11_sizesOf 27 = .ok (.goto 4, 3) := by decide +kernel
theorem dX11_sizesOf_30 : decode cX11_sizesOf 30 = .ok (.iconst 0, 1) := by decide +kernel
theorem dX11_sizesOf_31 : decode cX11_sizesOf 31 = .ok (.iadd, 1) := by decide +kernel
theorem dX11_sizesOf_32 : decode cX11_sizesOf 32 = .ok (.istore_n 2, 1) := by decide +kernel
theorem dX11_sizesOf_33 : decode cX11_sizesOf 33 = .ok (.iinc 3 1, 3) := by decide +kernel
theorem dX11_sizesOf_36 : decode cX11_sizesOf 36 = .ok (.goto (-32), 3) := by decide +kernel
theorem dX11_sizesOf_39 : decode cX11_sizesOf 39 = .ok (.iload_n 2, 1) := by decide +kernel
theorem dX11_sizesOf_40 : decode cX11_sizesOf 40 = .ok (.ireturn, 1) := by decide +kernel
theorem dX11_shares_0 : decode cX11_shares 0 = .ok (.aload_n 0, 1) := by decide +kernel
theorem dX11_shares_1 : decode cX11_shares 1 = .ok (.iload_n 1, 1) := by decide +kernel
theorem dX11_shares_2 : decode cX11_shares 2 = .ok (.invokevirtual 325, 3) := by decide +kernel
theorem dX11_shares_5 : decode cX11_shares 5 = .ok (.ifCond .eq 14, 3) := by decide +kernel
theorem dX11_shares_8 : decode cX11_shares 8 = .ok (.iload_n 2, 1) := by decide +kernel
theorem dX11_shares_9 : decode cX11_shares 9 = .ok (.iconst 0, 1) := by decide +kernel
theorem dX11_shares_10 : decode cX11_shares 10 = .ok (.sipush 999, 3) := by decide +kernel
theorem dX11_shares_13 : decode cX11_shares 13 = .ok (.invokestatic 208, 3) := by decide +kernel
theorem dX11_shares_16 : decode cX11_shares 16 = .ok (.ifCond .ne 5, 3) := by decide +kernel
theorem dX11_shares_19 : decode cX11_shares 19 = .ok (.iconst (-1), 1) := by decide +kernel
theorem dX11_shares_20 : decode cX11_shares 20 = .ok (.ireturn, 1) := by decide +kernel
theorem dX11_shares_21 : decode cX11_shares 21 = .ok (.aload_n 0, 1) := by decide +kernel
theorem dX11_shares_22 : decode cX11_shares 22 = .ok (.iconst 1, 1) := by decide +kernel
theorem dX11_shares_23 : decode cX11_shares 23 = .ok (.aload_n 0, 1) := by decide +kernel
theorem dX11_shares_24 : decode cX11_shares 24 = .ok (.getfield 261, 3) := by decide +kernel
theorem dX11_shares_27 : decode cX11_shares 27 = .ok (.ishl, 1) := by decide +kernel
theorem dX11_shares_28 : decode cX11_shares 28 = .ok (.iconst 1, 1) := by decide +kernel
theorem dX11_shares_29 : decode cX11_shares 29 = .ok (.isub, 1) := by decide +kernel
theorem dX11_shares_30 : decode cX11_shares 30 = .ok (.aload_n 0, 1) := by decide +kernel
theorem dX11_shares_31 : decode cX11_shares 31 = .ok (.invokevirtual 454, 3) := by decide +kernel
theorem dX11_shares_34 : decode cX11_shares 34 = .ok (.iconst (-1), 1) := by decide +kernel
theorem dX11_shares_35 : decode cX11_shares 35 = .ok (.ixor, 1) := by decide +kernel
theorem dX11_shares_36 : decode cX11_shares 36 = .ok (.iand, 1) := by decide +kernel
theorem dX11_shares_37 : decode cX11_shares 37 = .ok (.invokevirtual 457, 3) := by decide +kernel
theorem dX11_shares_40 : decode cX11_shares 40 = .ok (.istore_n 3, 1) := by decide +kernel
theorem dX11_shares_41 : decode cX11_shares 41 = .ok (.iload_n 3, 1) := by decide +kernel
theorem dX11_shares_42 : decode cX11_shares 42 = .ok (.ifCond .ne 7, 3) := by decide +kernel
theorem dX11_shares_45 : decode cX11_shares 45 = .ok (.iconst 0, 1) := by decide +kernel
theorem dX11_shares_46 : decode cX11_shares 46 = .ok (.goto 16, 3) := by decide +kernel
theorem dX11_shares_49 : decode cX11_shares 49 = .ok (.iload_n 2, 1) := by decide +kernel
theorem dX11_shares_50 : decode cX11_shares 50 = .ok (.aload_n 0, 1) := by decide +kernel
theorem dX11_shares_51 : decode cX11_shares 51 = .ok (.aload_n 0, 1) := by decide +kernel
theorem dX11_shares_52 : decode cX11_shares 52 = .ok (.iload_n 1, 1) := by decide +kernel
theorem dX11_shares_53 : decode cX11_shares 53 = .ok (.invokevirtual 286, 3) := by decide +kernel
theorem dX11_shares_56 : decode cX11_shares 56 = .ok (.invokevirtual 457, 3) := by decide +kernel
theorem dX11_shares_59 : decode cX11_shares 59 = .ok (.imul, 1) := by decide +kernel
theorem dX11_shares_60 : decode cX11_shares 60 = .ok (.iload_n 3, 1) := by decide +kernel
theorem dX11_shares_61 : decode cX11_shares 61 = .ok (.idiv, 1) := by decide +kernel
theorem dX11_shares_62 : decode cX11_shares 62 = .ok (.ireturn, 1) := by decide +kernel
theorem dX11_drained_0 : decode cX11_drained 0 = .ok (.iconst 0, 1) := by decide +kernel
theorem dX11_drained_1 : decode cX11_drained 1 = .ok (.istore_n 1, 1) := by decide +kernel
theorem dX11_drained_2 : decode cX11_drained 2 = .ok (.iconst 0, 1) := by decide +kernel
theorem dX11_drained_3 : decode cX11_drained 3 = .ok (.istore_n 2, 1) := by decide +kernel
theorem dX11_drained_4 : decode cX11_drained 4 = .ok (.iload_n 2, 1) := by decide +kernel
theorem dX11_drained_5 : decode cX11_drained 5 = .ok (.aload_n 0, 1) := by decide +kernel
theorem dX11_drained_6 : decode cX11_drained 6 = .ok (.getfield 261, 3) := by decide +kernel
theorem dX11_drained_9 : decode cX11_drained 9 = .ok (.if_icmp .ge 31, 3) := by decide +kernel
theorem dX11_drained_12 : decode cX11_drained 12 = .ok (.iload_n 1, 1) := by decide +kernel
theorem dX11_drained_13 : decode cX11_drained 13 = .ok (.aload_n 0, 1) := by decide +kernel
theorem dX11_drained_14 : decode cX11_drained 14 = .ok (.getfield 64, 3) := by decide +kernel
theorem dX11_drained_17 : decode cX11_drained 17 = .ok (.iconst 0, 1) := by decide +kernel
theorem dX11_drained_18 : decode cX11_drained 18 = .ok (.iload_n 2, 1) := by decide +kernel
theorem dX11_drained_19 : decode cX11_drained 19 = .ok (.iadd, 1) := by decide +kernel
theorem dX11_drained_20 : decode cX11_drained 20 = .ok (.iaload, 1) := by decide +kernel
theorem dX11_drained_21 : decode cX11_drained 21 = .ok (.iconst (-1), 1) := by decide +kernel
theorem dX11_drained_22 : decode cX11_drained 22 = .ok (.if_icmp .ne 9, 3) := by decide +kernel
theorem dX11_drained_25 : decode cX11_drained 25 = .ok (.iconst 1, 1) := by decide +kernel
theorem dX11_drained_26 : decode cX11_drained 26 = .ok (.iload_n 2, 1) := by decide +kernel
theorem dX11_drained_27 : decode cX11_drained 27 = .ok (.ishl, 1) := by decide +kernel
theorem dX11_drained_28 : decode cX11_drained 28 = .ok (.goto 4, 3) := by decide +kernel
theorem dX11_drained_31 : decode cX11_drained 31 = .ok (.iconst 0, 1) := by decide +kernel
theorem dX11_drained_32 : decode cX11_drained 32 = .ok (.ior, 1) := by decide +kernel
theorem dX11_drained_33 : decode cX11_drained 33 = .ok (.istore_n 1, 1) := by decide +kernel
theorem dX11_drained_34 : decode cX11_drained 34 = .ok (.iinc 2 1, 3) := by decide +kernel
theorem dX11_drained_37 : decode cX11_drained 37 = .ok (.goto (-33), 3) := by decide +kernel
theorem dX11_drained_40 : decode cX11_drained 40 = .ok (.iload_n 1, 1) := by decide +kernel
theorem dX11_drained_41 : decode cX11_drained 41 = .ok (.ireturn, 1) := by decide +kernel
theorem dX11_pays_0 : decode cX11_pays 0 = .ok (.aload_n 0, 1) := by decide +kernel
theorem dX11_pays_1 : decode cX11_pays 1 = .ok (.getfield 261, 3) := by decide +kernel
theorem dX11_pays_4 : decode cX11_pays 4 = .ok (.ifCond .ne 7, 3) := by decide +kernel
theorem dX11_pays_7 : decode cX11_pays 7 = .ok (.iconst (-1), 1) := by decide +kernel
theorem dX11_pays_8 : decode cX11_pays 8 = .ok (.goto 11, 3) := by decide +kernel
theorem dX11_pays_11 : decode cX11_pays 11 = .ok (.aload_n 0, 1) := by decide +kernel
theorem dX11_pays_12 : decode cX11_pays 12 = .ok (.aload_n 0, 1) := by decide +kernel
theorem dX11_pays_13 : decode cX11_pays 13 = .ok (.invokevirtual 369, 3) := by decide +kernel
theorem dX11_pays_16 : decode cX11_pays 16 = .ok (.invokevirtual 372, 3) := by decide +kernel
theorem dX11_pays_19 : decode cX11_pays 19 = .ok (.ireturn, 1) := by decide +kernel
theorem dX11_saves_0 : decode cX11_saves 0 = .ok (.aload_n 0, 1) := by decide +kernel
theorem dX11_saves_1 : decode cX11_saves 1 = .ok (.getfield 261, 3) := by decide +kernel
theorem dX11_saves_4 : decode cX11_saves 4 = .ok (.ifCond .eq 14, 3) := by decide +kernel
theorem dX11_saves_7 : decode cX11_saves 7 = .ok (.iload_n 1, 1) := by decide +kernel
theorem dX11_saves_8 : decode cX11_saves 8 = .ok (.iconst 1, 1) := by decide +kernel
theorem dX11_saves_9 : decode cX11_saves 9 = .ok (.sipush 999, 3) := by decide +kernel
theorem dX11_saves_12 : decode cX11_saves 12 = .ok (.invokestatic 208, 3) := by decide +kernel
theorem dX11_saves_15 : decode cX11_saves 15 = .ok (.ifCond .ne 5, 3) := by decide +kernel
theorem dX11_saves_18 : decode cX11_saves 18 = .ok (.iconst (-1), 1) := by decide +kernel
theorem dX11_saves_19 : decode cX11_saves 19 = .ok (.ireturn, 1) := by decide +kernel
theorem dX11_saves_20 : decode cX11_saves 20 = .ok (.aload_n 0, 1) := by decide +kernel
theorem dX11_saves_21 : decode cX11_saves 21 = .ok (.aload_n 0, 1) := by decide +kernel
theorem dX11_saves_22 : decode cX11_saves 22 = .ok (.invokevirtual 369, 3) := by decide +kernel
theorem dX11_saves_25 : decode cX11_saves 25 = .ok (.invokevirtual 372, 3) := by decide +kernel
theorem dX11_saves_28 : decode cX11_saves 28 = .ok (.istore_n 2, 1) := by decide +kernel
theorem dX11_saves_29 : decode cX11_saves 29 = .ok (.iconst 0, 1) := by decide +kernel
theorem dX11_saves_30 : decode cX11_saves 30 = .ok (.istore_n 3, 1) := by decide +kernel
theorem dX11_saves_31 : decode cX11_saves 31 = .ok (.iload_n 3, 1) := by decide +kernel
theorem dX11_saves_32 : decode cX11_saves 32 = .ok (.bipush 60, 2) := by decide +kernel
theorem dX11_saves_34 : decode cX11_saves 34 = .ok (.if_icmp .gt 26, 3) := by decide +kernel
theorem dX11_saves_37 : decode cX11_saves 37 = .ok (.aload_n 0, 1) := by decide +kernel
theorem dX11_saves_38 : decode cX11_saves 38 = .ok (.getfield 64, 3) := by decide +kernel
theorem dX11_saves_41 : decode cX11_saves 41 = .ok (.bipush 8, 2) := by decide +kernel
theorem dX11_saves_43 : decode cX11_saves 43 = .ok (.iaload, 1) := by decide +kernel
theorem dX11_saves_44 : decode cX11_saves 44 = .ok (.iload_n 3, 1) := by decide +kernel
theorem dX11_saves_45 : decode cX11_saves 45 = .ok (.iload_n 2, 1) := by decide +kernel
theorem dX11_saves_46 : decode cX11_saves 46 = .ok (.imul, 1) := by decide +kernel
theorem dX11_saves_47 : decode cX11_saves 47 = .ok (.iadd, 1) := by decide +kernel
theorem dX11_saves_48 : decode cX11_saves 48 = .ok (.iload_n 1, 1) := by decide +kernel
theorem dX11_saves_49 : decode cX11_saves 49 = .ok (.if_icmp .lt 5, 3) := by decide +kernel
theorem dX11_saves_52 : decode cX11_saves 52 = .ok (.iload_n 3, 1) := by decide +kernel
theorem dX11_saves_53 : decode cX11_saves 53 = .ok (.ireturn, 1) := by decide +kernel
theorem dX11_saves_54 : decode cX11_saves 54 = .ok (.iinc 3 1, 3) := by decide +kernel
theorem dX11_saves_57 : decode cX11_saves 57 = .ok (.goto (-26), 3) := by decide +kernel
theorem dX11_saves_60 : decode cX11_saves 60 = .ok (.iconst (-1), 1) := by decide +kernel
theorem dX11_saves_61 : decode cX11_saves 61 = .ok (.ireturn, 1) := by decide +kernel
theorem dX11_hands_0 : decode cX11_hands 0 = .ok (.aload_n 0, 1) := by decide +kernel
theorem dX11_hands_1 : decode cX11_hands 1 = .ok (.iload_n 1, 1) := by decide +kernel
theorem dX11_hands_2 : decode cX11_hands 2 = .ok (.invokevirtual 325, 3) := by decide +kernel
theorem dX11_hands_5 : decode cX11_hands 5 = .ok (.ifCond .eq 11, 3) := by decide +kernel
theorem dX11_hands_8 : decode cX11_hands 8 = .ok (.aload_n 0, 1) := by decide +kernel
theorem dX11_hands_9 : decode cX11_hands 9 = .ok (.iload_n 1, 1) := by decide +kernel
theorem dX11_hands_10 : decode cX11_hands 10 = .ok (.invokevirtual 286, 3) := by decide +kernel
theorem dX11_hands_13 : decode cX11_hands 13 = .ok (.goto 4, 3) := by decide +kernel
theorem dX11_hands_16 : decode cX11_hands 16 = .ok (.iconst (-1), 1) := by decide +kernel
theorem dX11_hands_17 : decode cX11_hands 17 = .ok (.ireturn, 1) := by decide +kernel
theorem dX11_richest_0 : decode cX11_richest 0 = .ok (.iconst 0, 1) := by decide +kernel
theorem dX11_richest_1 : decode cX11_richest 1 = .ok (.istore_n 1, 1) := by decide +kernel
theorem dX11_richest_2 : decode cX11_richest 2 = .ok (.iconst 1, 1) := by decide +kernel
theorem dX11_richest_3 : decode cX11_richest 3 = .ok (.istore_n 2, 1) := by decide +kernel
theorem dX11_richest_4 : decode cX11_richest 4 = .ok (.iload_n 2, 1) := by decide +kernel
theorem dX11_richest_5 : decode cX11_richest 5 = .ok (.aload_n 0, 1) := by decide +kernel
theorem dX11_richest_6 : decode cX11_richest 6 = .ok (.getfield 258, 3) := by decide +kernel
theorem dX11_richest_9 : decode cX11_richest 9 = .ok (.if_icmp .ge 34, 3) := by decide +kernel
theorem dX11_richest_12 : decode cX11_richest 12 = .ok (.aload_n 0, 1) := by decide +kernel
theorem dX11_richest_13 : decode cX11_richest 13 = .ok (.iload_n 2, 1) := by decide +kernel
theorem dX11_richest_14 : decode cX11_richest 14 = .ok (.invokevirtual 286, 3) := by decide +kernel
theorem dX11_richest_17 : decode cX11_richest 17 = .ok (.invokestatic 289, 3) := by decide +kernel
theorem dX11_richest_20 : decode cX11_richest 20 = .ok (.aload_n 0, 1) := by decide +kernel
theorem dX11_richest_21 : decode cX11_richest 21 = .ok (.iload_n 1, 1) := by decide +kernel
theorem dX11_richest_22 : decode cX11_richest 22 = .ok (.invokevirtual 286, 3) := by decide +kernel
theorem dX11_richest_25 : decode cX11_richest 25 = .ok (.invokestatic 289, 3) := by decide +kernel
theorem dX11_richest_28 : decode cX11_richest 28 = .ok (.if_icmp .le 7, 3) := by decide +kernel
theorem dX11_richest_31 : decode cX11_richest 31 = .ok (.iload_n 2, 1) := by decide +kernel
theorem dX11_richest_32 : decode cX11_richest 32 = .ok (.goto 4, 3) := by decide +kernel
theorem dX11_richest_35 : decode cX11_richest 35 = .ok (.iload_n 1, 1) := by decide +kernel
theorem dX11_richest_36 : decode cX11_richest 36 = .ok (.istore_n 1, 1) := by decide +kernel
theorem dX11_richest_37 : decode cX11_richest 37 = .ok (.iinc 2 1, 3) := by decide +kernel
theorem dX11_richest_40 : decode cX11_richest 40 = .ok (.goto (-36), 3) := by decide +kernel
theorem dX11_richest_43 : decode cX11_richest 43 = .ok (.iload_n 1, 1) := by decide +kernel
theorem dX11_richest_44 : decode cX11_richest 44 = .ok (.ireturn, 1) := by decide +kernel
theorem dX11_strongest_0 : decode cX11_strongest 0 = .ok (.iconst (-1), 1) := by decide +kernel
theorem dX11_strongest_1 : decode cX11_strongest 1 = .ok (.istore_n 2, 1) := by decide +kernel
theorem dX11_strongest_2 : decode cX11_strongest 2 = .ok (.iconst 0, 1) := by decide +kernel
theorem dX11_strongest_3 : decode cX11_strongest 3 = .ok (.istore_n 3, 1) := by decide +kernel
theorem dX11_strongest_4 : decode cX11_strongest 4 = .ok (.iload_n 3, 1) := by decide +kernel
theorem dX11_strongest_5 : decode cX11_strongest 5 = .ok (.aload_n 0, 1) := by decide +kernel
theorem dX11_strongest_6 : decode cX11_strongest 6 = .ok (.getfield 261, 3) := by decide +kernel
theorem dX11_strongest_9 : decode cX11_strongest 9 = .ok (.if_icmp .ge 43, 3) := by decide +kernel
theorem dX11_strongest_12 : decode cX11_strongest 12 = .ok (.iload_n 1, 1) := by decide +kernel
theorem dX11_strongest_13 : decode cX11_strongest 13 = .ok (.iload_n 3, 1) := by decide +kernel
theorem dX11_strongest_14 : decode cX11_strongest 14 = .ok (.invokestatic 219, 3) := by decide +kernel
theorem dX11_strongest_17 : decode cX11_strongest 17 = .ok (.ifCond .eq 27, 3) := by decide +kernel
theorem dX11_strongest_20 : decode cX11_strongest 20 = .ok (.iload_n 2, 1) := by decide +kernel
theorem dX11_strongest_21 : decode cX11_strongest 21 = .ok (.iconst (-1), 1) := by decide +kernel
theorem dX11_strongest_22 : decode cX11_strongest 22 = .ok (.if_icmp .eq 18, 3) := by decide +kernel
theorem dX11_strongest_25 : decode cX11_strongest 25 = .ok (.aload_n 0, 1) := by decide +kernel
theorem dX11_strongest_26 : decode cX11_strongest 26 = .ok (.iload_n 3, 1) := by decide +kernel
theorem dX11_strongest_27 : decode cX11_strongest 27 = .ok (.iconst 2, 1) := by decide +kernel
theorem dX11_strongest_28 : decode cX11_strongest 28 = .ok (.invokevirtual 267, 3) := by decide +kernel
theorem dX11_strongest_31 : decode cX11_strongest 31 = .ok (.aload_n 0, 1) := by decide +kernel
theorem dX11_strongest_32 : decode cX11_strongest 32 = .ok (.iload_n 2, 1) := by decide +kernel
theorem dX11_strongest_33 : decode cX11_strongest 33 = .ok (.iconst 2, 1) := by decide +kernel
theorem dX11_strongest_34 : decode cX11_strongest 34 = .ok (.invokevirtual 267, 3) := by decide +kernel
theorem dX11_strongest_37 : decode cX11_strongest 37 = .ok (.if_icmp .le 7, 3) := by decide +kernel
theorem dX11_strongest_40 : decode cX11_strongest 40 = .ok (.iload_n 3, 1) := by decide +kernel
theorem dX11_strongest_41 : decode cX11_strongest 41 = .ok (.goto 4, 3) := by decide +kernel
theorem dX11_strongest_44 : decode cX11_strongest 44 = .ok (.iload_n 2, 1) := by decide +kernel
theorem dX11_strongest_45 : decode cX11_strongest 45 = .ok (.istore_n 2, 1) := by decide +kernel
theorem dX11_strongest_46 : decode cX11_strongest 46 = .ok (.iinc 3 1, 3) := by decide +kernel
theorem dX11_strongest_49 : decode cX11_strongest 49 = .ok (.goto (-45), 3) := by decide +kernel
theorem dX11_strongest_52 : decode cX11_strongest 52 = .ok (.iload_n 2, 1) := by decide +kernel
theorem dX11_strongest_53 : decode cX11_strongest 53 = .ok (.ireturn, 1) := by decide +kernel
theorem dX11_champion_0 : decode cX11_champion 0 = .ok (.iconst (-1), 1) := by decide +kernel
theorem dX11_champion_1 : decode cX11_champion 1 = .ok (.istore_n 1, 1) := by decide +kernel
theorem dX11_champion_2 : decode cX11_champion 2 = .ok (.iconst 0, 1) := by decide +kernel
theorem dX11_champion_3 : decode cX11_champion 3 = .ok (.istore_n 2, 1) := by decide +kernel
theorem dX11_champion_4 : decode cX11_champion 4 = .ok (.iconst 0, 1) := by decide +kernel
theorem dX11_champion_5 : decode cX11_champion 5 = .ok (.istore_n 3, 1) := by decide +kernel
theorem dX11_champion_6 : decode cX11_champion 6 = .ok (.iload_n 3, 1) := by decide +kernel
theorem dX11_champion_7 : decode cX11_champion 7 = .ok (.aload_n 0, 1) := by decide +kernel
theorem dX11_champion_8 : decode cX11_champion 8 = .ok (.getfield 258, 3) := by decide +kernel
theorem dX11_champion_11 : decode cX11_champion 11 = .ok (.if_icmp .ge 96, 3) := by decide +kernel
theorem dX11_champion_14 : decode cX11_champion 14 = .ok (.aload_n 0, 1) := by decide +kernel
theorem dX11_champion_15 : decode cX11_champion 15 = .ok (.aload_n 0, 1) := by decide +kernel
theorem dX11_champion_16 : decode cX11_champion 16 = .ok (.iload_n 3, 1) := by decide +kernel
theorem dX11_champion_17 : decode cX11_champion 17 = .ok (.invokevirtual 286, 3) := by decide +kernel
theorem dX11_champion_20 : decode cX11_champion 20 = .ok (.aload_n 0, 1) := by decide +kernel
theorem dX11_champion_21 : decode cX11_champion 21 = .ok (.getfield 64, 3) := by decide +kernel
theorem dX11_champion_24 : decode cX11_champion 24 = .ok (.bipush 7, 2) := by decide +kernel
theorem dX11_champion_26 : decode cX11_champion 26 = .ok (.iaload, 1) := by decide +kernel
theorem dX11_champion_27 : decode cX11_champion 27 = .ok (.iconst (-1), 1) := by decide +kernel
theorem dX11_champion_28 : decode cX11_champion 28 = .ok (.ixor, 1) := by decide +kernel
theorem dX11_champion_29 : decode cX11_champion 29 = .ok (.iand, 1) := by decide +kernel
theorem dX11_champion_30 : decode cX11_champion 30 = .ok (.invokevirtual 460, 3) := by decide +kernel
theorem dX11_champion_33 : decode cX11_champion 33 = .ok (.istore 4, 2) := by decide +kernel
theorem dX11_champion_35 : decode cX11_champion 35 = .ok (.iload 4, 2) := by decide +kernel
theorem dX11_champion_37 : decode cX11_champion 37 = .ok (.iconst (-1), 1) := by decide +kernel
theorem dX11_champion_38 : decode cX11_champion 38 = .ok (.if_icmp .ne 7, 3) := by decide +kernel
theorem dX11_champion_41 : decode cX11_champion 41 = .ok (.iconst (-1), 1) := by decide +kernel
theorem dX11_champion_42 : decode cX11_champion 42 = .ok (.goto 10, 3) := by decide +kernel
theorem dX11_champion_45 : decode cX11_champion 45 = .ok (.aload_n 0, 1) := by decide +kernel
theorem dX11_champion_46 : decode cX11_champion 46 = .ok (.iload_n 3, 1) := by decide +kernel
theorem dX11_champion_47 : decode cX11_champion 47 = .ok (.iload 4, 2) := by decide +kernel
theorem dX11_champion_49 : decode cX11_champion 49 = .ok (.invokevirtual 398, 3) := by decide +kernel
theorem dX11_champion_52 : decode cX11_champion 52 = .ok (.istore 5, 2) := by decide +kernel
theorem dX11_champion_54 : decode cX11_champion 54 = .ok (.iload 5, 2) := by decide +kernel
theorem dX11_champion_56 : decode cX11_champion 56 = .ok (.iconst (-1), 1) := by decide +kernel
theorem dX11_champion_57 : decode cX11_champion 57 = .ok (.if_icmp .ne 7, 3) := by decide +kernel
theorem dX11_champion_60 : decode cX11_champion 60 = .ok (.iconst 0, 1) := by decide +kernel
theorem dX11_champion_61 : decode cX11_champion 61 = .ok (.goto 16, 3) := by decide +kernel
theorem dX11_champion_64 : decode cX11_champion 64 = .ok (.aload_n 0, 1) := by decide +kernel
theorem dX11_champion_65 : decode cX11_champion 65 = .ok (.aload_n 0, 1) := by decide +kernel
theorem dX11_champion_66 : decode cX11_champion 66 = .ok (.iload_n 3, 1) := by decide +kernel
theorem dX11_champion_67 : decode cX11_champion 67 = .ok (.iload 4, 2) := by decide +kernel
theorem dX11_champion_69 : decode cX11_champion 69 = .ok (.iload 5, 2) := by decide +kernel
theorem dX11_champion_71 : decode cX11_champion 71 = .ok (.invokevirtual 341, 3) := by decide +kernel
theorem dX11_champion_74 : decode cX11_champion 74 = .ok (.invokevirtual 307, 3) := by decide +kernel
theorem dX11_champion_77 : decode cX11_champion 77 = .ok (.istore 6, 2) := by decide +kernel
theorem dX11_champion_79 : decode cX11_champion 79 = .ok (.iload 5, 2) := by decide +kernel
theorem dX11_champion_81 : decode cX11_champion 81 = .ok (.iconst (-1), 1) := by decide +kernel
theorem dX11_champion_82 : decode cX11_champion 82 = .ok (.if_icmp .eq 19, 3) := by decide +kernel
theorem dX11_champion_85 : decode cX11_champion 85 = .ok (.iload_n 1, 1) := by decide +kernel
theorem dX11_champion_86 : decode cX11_champion 86 = .ok (.iconst (-1), 1) := by decide +kernel
theorem dX11_champion_87 : decode cX11_champion 87 = .ok (.if_icmp .eq 9, 3) := by decide +kernel
theorem dX11_champion_90 : decode cX11_champion 90 = .ok (.iload 6, 2) := by decide +kernel
theorem dX11_champion_92 : decode cX11_champion 92 = .ok (.iload_n 2, 1) := by decide +kernel
theorem dX11_champion_93 : decode cX11_champion 93 = .ok (.if_icmp .ge 8, 3) := by decide +kernel
theorem dX11_champion_96 : decode cX11_champion 96 = .ok (.iload_n 3, 1) := by decide +kernel
theorem dX11_champion_97 : decode cX11_champion 97 = .ok (.istore_n 1, 1) := by decide +kernel
theorem dX11_champion_98 : decode cX11_champion 98 = .ok (.iload 6, 2) := by decide +kernel
theorem dX11_champion_100 : decode cX11_champion 100 = .ok (.istore_n 2, 1) := by decide +kernel
theorem dX11_champion_101 : decode cX11_champion 101 = .ok (.iinc 3 1, 3) := by decide +kernel
theorem dX11_champion_104 : decode cX11_champion 104 = .ok (.goto (-98), 3) := by decide +kernel
theorem dX11_champion_107 : decode cX11_champion 107 = .ok (.iload_n 1, 1) := by decide +kernel
theorem dX11_champion_108 : decode cX11_champion 108 = .ok (.ireturn, 1) := by decide +kernel
theorem dX11_most_0 : decode cX11_most 0 = .ok (.aload_n 0, 1) := by decide +kernel
theorem dX11_most_1 : decode cX11_most 1 = .ok (.getfield 261, 3) := by decide +kernel
theorem dX11_most_4 : decode cX11_most 4 = .ok (.ifCond .eq 12, 3) := by decide +kernel
theorem dX11_most_7 : decode cX11_most 7 = .ok (.iload_n 1, 1) := by decide +kernel
theorem dX11_most_8 : decode cX11_most 8 = .ok (.iconst 0, 1) := by decide +kernel
theorem dX11_most_9 : decode cX11_most 9 = .ok (.iconst 3, 1) := by decide +kernel
theorem dX11_most_10 : decode cX11_most 10 = .ok (.invokestatic 208, 3) := by decide +kernel
theorem dX11_most_13 : decode cX11_most 13 = .ok (.ifCond .ne 5, 3) := by decide +kernel
theorem dX11_most_16 : decode cX11_most 16 = .ok (.iconst (-1), 1) := by decide +kernel
theorem dX11_most_17 : decode cX11_most 17 = .ok (.ireturn, 1) := by decide +kernel
theorem dX11_most_18 : decode cX11_most 18 = .ok (.iconst 0, 1) := by decide +kernel
theorem dX11_most_19 : decode cX11_most 19 = .ok (.istore_n 2, 1) := by decide +kernel
theorem dX11_most_20 : decode cX11_most 20 = .ok (.iconst 0, 1) := by decide +kernel
theorem dX11_most_21 : decode cX11_most 21 = .ok (.istore_n 3, 1) := by decide +kernel
theorem dX11_most_22 : decode cX11_most 22 = .ok (.iload_n 3, 1) := by decide +kernel
theorem dX11_most_23 : decode cX11_most 23 = .ok (.bipush 10, 2) := by decide +kernel
theorem dX11_most_25 : decode cX11_most 25 = .ok (.if_icmp .ge 28, 3) := by decide +kernel
theorem dX11_most_28 : decode cX11_most 28 = .ok (.iload_n 2, 1) := by decide +kernel
theorem dX11_most_29 : decode cX11_most 29 = .ok (.aload_n 0, 1) := by decide +kernel
theorem dX11_most_30 : decode cX11_most 30 = .ok (.iload_n 3, 1) := by decide +kernel
theorem dX11_most_31 : decode cX11_most 31 = .ok (.invokevirtual 319, 3) := by decide +kernel
theorem dX11_most_34 : decode cX11_most 34 = .ok (.iconst (-1), 1) := by decide +kernel
theorem dX11_most_35 : decode cX11_most 35 = .ok (.if_icmp .ne 9, 3) := by decide +kernel
theorem dX11_most_38 : decode cX11_most 38 = .ok (.iconst 1, 1) := by decide +kernel
theorem dX11_most_39 : decode cX11_most 39 = .ok (.iload_n 3, 1) := by decide +kernel
theorem dX11_most_40 : decode cX11_most 40 = .ok (.ishl, 1) := by decide +kernel
theorem dX11_most_41 : decode cX11_most 41 = .ok (.goto 4, 3) := by decide +kernel
theorem dX11_most_44 : decode cX11_most 44 = .ok (.iconst 0, 1) := by decide +kernel
theorem dX11_most_45 : decode cX11_most 45 = .ok (.ior, 1) := by decide +kernel
theorem dX11_most_46 : decode cX11_most 46 = .ok (.istore_n 2, 1) := by decide +kernel
theorem dX11_most_47 : decode cX11_most 47 = .ok (.iinc 3 1, 3) := by decide +kernel
theorem dX11_most_50 : decode cX11_most 50 = .ok (.goto (-28), 3) := by decide +kernel
theorem dX11_most_53 : decode cX11_most 53 = .ok (.iload_n 1, 1) := by decide +kernel
theorem dX11_most_54 : decode cX11_most 54 = .ok (.ifCond .ne 10, 3) := by decide +kernel
theorem dX11_most_57 : decode cX11_most 57 = .ok (.aload_n 0, 1) := by decide +kernel
theorem dX11_most_58 : decode cX11_most 58 = .ok (.invokevirtual 463, 3) := by decide +kernel
theorem dX11_most_61 : decode cX11_most 61 = .ok (.goto 43, 3) := by decide +kernel
theorem dX11_most_64 : decode cX11_most 64 = .ok (.iload_n 1, 1) := by decide +kernel
theorem dX11_most_65 : decode cX11_most 65 = .ok (.iconst 1, 1) := by decide +kernel
theorem dX11_most_66 : decode cX11_most 66 = .ok (.if_icmp .ne 25, 3) := by decide +kernel
theorem dX11_most_69 : decode cX11_most 69 = .ok (.aload_n 0, 1) := by decide +kernel
theorem dX11_most_70 : decode cX11_most 70 = .ok (.iconst 1, 1) := by decide +kernel
theorem dX11_most_71 : decode cX11_most 71 = .ok (.aload_n 0, 1) := by decide +kernel
theorem dX11_most_72 : decode cX11_most 72 = .ok (.getfield 261, 3) := by decide +kernel
theorem dX11_most_75 : decode cX11_most 75 = .ok (.ishl, 1) := by decide +kernel
theorem dX11_most_76 : decode cX11_most 76 = .ok (.iconst 1, 1) := by decide +kernel
theorem dX11_most_77 : decode cX11_most 77 = .ok (.isub, 1) := by decide +kernel
theorem dX11_most_78 : decode cX11_most 78 = .ok (.aload_n 0, 1) := by decide +kernel
theorem dX11_most_79 : decode cX11_most 79 = .ok (.invokevirtual 454, 3) := by decide +kernel
theorem dX11_most_82 : decode cX11_most 82 = .ok (.iconst (-1), 1) := by decide +kernel
theorem dX11_most_83 : decode cX11_most 83 = .ok (.ixor, 1) := by decide +kernel
theorem dX11_most_84 : decode cX11_most 84 = .ok (.iand, 1) := by decide +kernel
theorem dX11_most_85 : decode cX11_most 85 = .ok (.invokevirtual 460, 3) := by decide +kernel
theorem dX11_most_88 : decode cX11_most 88 = .ok (.goto 16, 3) := by decide +kernel
theorem dX11_most_91 : decode cX11_most 91 = .ok (.iload_n 1, 1) := by decide +kernel
theorem dX11_most_92 : decode cX11_most 92 = .ok (.iconst 2, 1) := by decide +kernel
theorem dX11_most_93 : decode cX11_most 93 = .ok (.if_icmp .ne 7, 3) := by decide +kernel
theorem dX11_most_96 : decode cX11_most 96 = .ok (.iload_n 2, 1) := by decide +kernel
theorem dX11_most_97 : decode cX11_most 97 = .ok (.goto 7, 3) := by decide +kernel
theorem dX11_most_100 : decode cX11_most 100 = .ok (.aload_n 0, 1) := by decide +kernel
theorem dX11_most_101 : decode cX11_most 101 = .ok (.invokevirtual 466, 3) := by decide +kernel
theorem dX11_most_104 : decode cX11_most 104 = .ok (.ireturn, 1) := by decide +kernel
theorem dX11_image_0 : decode cX11_image 0 = .ok (.aload_n 0, 1) := by decide +kernel
theorem dX11_image_1 : decode cX11_image 1 = .ok (.getfield 261, 3) := by decide +kernel
theorem dX11_image_4 : decode cX11_image 4 = .ok (.ifCond .ne 5, 3) := by decide +kernel
theorem dX11_image_7 : decode cX11_image 7 = .ok (.iconst (-1), 1) := by decide +kernel
theorem dX11_image_8 : decode cX11_image 8 = .ok (.ireturn, 1) := by decide +kernel
theorem dX11_image_9 : decode cX11_image 9 = .ok (.iconst 0, 1) := by decide +kernel
theorem dX11_image_10 : decode cX11_image 10 = .ok (.istore_n 1, 1) := by decide +kernel
theorem dX11_image_11 : decode cX11_image 11 = .ok (.iload_n 1, 1) := by decide +kernel
theorem dX11_image_12 : decode cX11_image 12 = .ok (.sipush 131, 3) := by decide +kernel
theorem dX11_image_15 : decode cX11_image 15 = .ok (.if_icmp .ge 21, 3) := by decide +kernel
theorem dX11_image_18 : decode cX11_image 18 = .ok (.aload_n 0, 1) := by decide +kernel
theorem dX11_image_19 : decode cX11_image 19 = .ok (.getfield 90, 3) := by decide +kernel
theorem dX11_image_22 : decode cX11_image 22 = .ok (.iload_n 1, 1) := by decide +kernel
theorem dX11_image_23 : decode cX11_image 23 = .ok (.aload_n 0, 1) := by decide +kernel
theorem dX11_image_24 : decode cX11_image 24 = .ok (.getfield 64, 3) := by decide +kernel
theorem dX11_image_27 : decode cX11_image 27 = .ok (.iload_n 1, 1) := by decide +kernel
theorem dX11_image_28 : decode cX11_image 28 = .ok (.iaload, 1) := by decide +kernel
theorem dX11_image_29 : decode cX11_image 29 = .ok (.iastore, 1) := by decide +kernel
theorem dX11_image_30 : decode cX11_image 30 = .ok (.iinc 1 1, 3) := by decide +kernel
theorem dX11_image_33 : decode cX11_image 33 = .ok (.goto (-22), 3) := by decide +kernel
theorem dX11_image_36 : decode cX11_image 36 = .ok (.aload_n 0, 1) := by decide +kernel
theorem dX11_image_37 : decode cX11_image 37 = .ok (.iconst 1, 1) := by decide +kernel
theorem dX11_image_38 : decode cX11_image 38 = .ok (.putfield 276, 3) := by decide +kernel
theorem dX11_image_41 : decode cX11_image 41 = .ok (.aload_n 0, 1) := by decide +kernel
theorem dX11_image_42 : decode cX11_image 42 = .ok (.getfield 64, 3) := by decide +kernel
theorem dX11_image_45 : decode cX11_image 45 = .ok (.bipush 9, 2) := by decide +kernel
theorem dX11_image_47 : decode cX11_image 47 = .ok (.iaload, 1) := by decide +kernel
theorem dX11_image_48 : decode cX11_image 48 = .ok (.ireturn, 1) := by decide +kernel
theorem dX11_back_0 : decode cX11_back 0 = .ok (.aload_n 0, 1) := by decide +kernel
theorem dX11_back_1 : decode cX11_back 1 = .ok (.getfield 276, 3) := by decide +kernel
theorem dX11_back_4 : decode cX11_back 4 = .ok (.ifCond .ne 5, 3) := by decide +kernel
theorem dX11_back_7 : decode cX11_back 7 = .ok (.iconst (-1), 1) := by decide +kernel
theorem dX11_back_8 : decode cX11_back 8 = .ok (.ireturn, 1) := by decide +kernel
theorem dX11_back_9 : decode cX11_back 9 = .ok (.iconst 0, 1) := by decide +kernel
theorem dX11_back_10 : decode cX11_back 10 = .ok (.istore_n 1, 1) := by decide +kernel
theorem dX11_back_11 : decode cX11_back 11 = .ok (.iload_n 1, 1) := by decide +kernel
theorem dX11_back_12 : decode cX11_back 12 = .ok (.sipush 131, 3) := by decide +kernel
theorem dX11_back_15 : decode cX11_back 15 = .ok (.if_icmp .ge 21, 3) := by decide +kernel
theorem dX11_back_18 : decode cX11_back 18 = .ok (.aload_n 0, 1) := by decide +kernel
theorem dX11_back_19 : decode cX11_back 19 = .ok (.getfield 64, 3) := by decide +kernel
theorem dX11_back_22 : decode cX11_back 22 = .ok (.iload_n 1, 1) := by decide +kernel
theorem dX11_back_23 : decode cX11_back 23 = .ok (.aload_n 0, 1) := by decide +kernel
theorem dX11_back_24 : decode cX11_back 24 = .ok (.getfield 90, 3) := by decide +kernel
theorem dX11_back_27 : decode cX11_back 27 = .ok (.iload_n 1, 1) := by decide +kernel
theorem dX11_back_28 : decode cX11_back 28 = .ok (.iaload, 1) := by decide +kernel
theorem dX11_back_29 : decode cX11_back 29 = .ok (.iastore, 1) := by decide +kernel
theorem dX11_back_30 : decode cX11_back 30 = .ok (.iinc 1 1, 3) := by decide +kernel
theorem dX11_back_33 : decode cX11_back 33 = .ok (.goto (-22), 3) := by decide +kernel
theorem dX11_back_36 : decode cX11_back 36 = .ok (.aload_n 0, 1) := by decide +kernel
theorem dX11_back_37 : decode cX11_back 37 = .ok (.iconst 0, 1) := by decide +kernel
theorem dX11_back_38 : decode cX11_back 38 = .ok (.putfield 273, 3) := by decide +kernel
theorem dX11_back_41 : decode cX11_back 41 = .ok (.aload_n 0, 1) := by decide +kernel
theorem dX11_back_42 : decode cX11_back 42 = .ok (.getfield 64, 3) := by decide +kernel
theorem dX11_back_45 : decode cX11_back 45 = .ok (.bipush 9, 2) := by decide +kernel
theorem dX11_back_47 : decode cX11_back 47 = .ok (.iaload, 1) := by decide +kernel
theorem dX11_back_48 : decode cX11_back 48 = .ok (.ireturn, 1) := by decide +kernel
theorem dX11_count_0 : decode cX11_count 0 = .ok (.iload_n 1, 1) := by decide +kernel
theorem dX11_count_1 : decode cX11_count 1 = .ok (.tableswitch 138 0 12 #[67, 72, 77, 82, 87, 92, 97, 105, 110, 115, 120, 125, 133], 67) := by decide +kernel
theorem dX11_count_68 : decode cX11_count 68 = .ok (.aload_n 0, 1) := by decide +kernel
theorem dX11_count_69 : decode cX11_count 69 = .ok (.getfield 261, 3) := by decide +kernel
theorem dX11_count_72 : decode cX11_count 72 = .ok (.ireturn, 1) := by decide +kernel
theorem dX11_count_73 : decode cX11_count 73 = .ok (.aload_n 0, 1) := by decide +kernel
theorem dX11_count_74 : decode cX11_count 74 = .ok (.getfield 258, 3) := by decide +kernel
theorem dX11_count_77 : decode cX11_count 77 = .ok (.ireturn, 1) := by decide +kernel
theorem dX11_count_78 : decode cX11_count 78 = .ok (.aload_n 0, 1) := by decide +kernel
theorem dX11_count_79 : decode cX11_count 79 = .ok (.getfield 264, 3) := by decide +kernel
theorem dX11_count_82 : decode cX11_count 82 = .ok (.ireturn, 1) := by decide +kernel
theorem dX11_count_83 : decode cX11_count 83 = .ok (.aload_n 0, 1) := by decide +kernel
theorem dX11_count_84 : decode cX11_count 84 = .ok (.getfield 283, 3) := by decide +kernel
theorem dX11_count_87 : decode cX11_count 87 = .ok (.ireturn, 1) := by decide +kernel
theorem dX11_count_88 : decode cX11_count 88 = .ok (.aload_n 0, 1) := by decide +kernel
theorem dX11_count_89 : decode cX11_count 89 = .ok (.getfield 100, 3) := by decide +kernel
theorem dX11_count_92 : decode cX11_count 92 = .ok (.ireturn, 1) := by decide +kernel
theorem dX11_count_93 : decode cX11_count 93 = .ok (.aload_n 0, 1) := by decide +kernel
theorem dX11_count_94 : decode cX11_count 94 = .ok (.getfield 70, 3) := by decide +kernel
theorem dX11_count_97 : decode cX11_count 97 = .ok (.ireturn, 1) := by decide +kernel
theorem dX11_count_98 : decode cX11_count 98 = .ok (.aload_n 0, 1) := by decide +kernel
theorem dX11_count_99 : decode cX11_count 99 = .ok (.getfield 64, 3) := by decide +kernel
theorem dX11_count_102 : decode cX11_count 102 = .ok (.bipush 9, 2) := by decide +kernel
theorem dX11_count_104 : decode cX11_count 104 = .ok (.iaload, 1) := by decide +kernel
theorem dX11_count_105 : decode cX11_count 105 = .ok (.ireturn, 1) := by decide +kernel
theorem dX11_count_106 : decode cX11_count 106 = .ok (.aload_n 0, 1) := by decide +kernel
theorem dX11_count_107 : decode cX11_count 107 = .ok (.invokevirtual 369, 3) := by decide +kernel
theorem dX11_count_110 : decode cX11_count 110 = .ok (.ireturn, 1) := by decide +kernel
theorem dX11_count_111 : decode cX11_count 111 = .ok (.aload_n 0, 1) := by decide +kernel
theorem dX11_count_112 : decode cX11_count 112 = .ok (.invokevirtual 454, 3) := by decide +kernel
theorem dX11_count_115 : decode cX11_count 115 = .ok (.ireturn, 1) := by decide +kernel
theorem dX11_count_116 : decode cX11_count 116 = .ok (.aload_n 0, 1) := by decide +kernel
theorem dX11_count_117 : decode cX11_count 117 = .ok (.getfield 381, 3) := by decide +kernel
theorem dX11_count_120 : decode cX11_count 120 = .ok (.ireturn, 1) := by decide +kernel
theorem dX11_count_121 : decode cX11_count 121 = .ok (.aload_n 0, 1) := by decide +kernel
theorem dX11_count_122 : decode cX11_count 122 = .ok (.getfield 270, 3) := by decide +kernel
theorem dX11_count_125 : decode cX11_count 125 = .ok (.ireturn, 1) := by decide +kernel
theorem dX11_count_126 : decode cX11_count 126 = .ok (.aload_n 0, 1) := by decide +kernel
theorem dX11_count_127 : decode cX11_count 127 = .ok (.getfield 64, 3) := by decide +kernel
theorem dX11_count_130 : decode cX11_count 130 = .ok (.bipush 10, 2) := by decide +kernel
theorem dX11_count_132 : decode cX11_count 132 = .ok (.iaload, 1) := by decide +kernel
theorem dX11_count_133 : decode cX11_count 133 = .ok (.ireturn, 1) := by decide +kernel
theorem dX11_count_134 : decode cX11_count 134 = .ok (.aload_n 0, 1) := by decide +kernel
theorem dX11_count_135 : decode cX11_count 135 = .ok (.getfield 273, 3) := by decide +kernel
theorem dX11_count_138 : decode cX11_count 138 = .ok (.ireturn, 1) := by decide +kernel
theorem dX11_count_139 : decode cX11_count 139 = .ok (.ldc_w 331, 3) := by decide +kernel
theorem dX11_count_142 : decode cX11_count 142 = .ok (.ireturn, 1) := by decide +kernel
theorem dJ6_bitCount_0f7a4_0 : decode cJ6_bitCount_0f7a4 0 = .ok (.iload_n 0, 1) := by decide +kernel
theorem dJ6_bitCount_0f7a4_1 : decode cJ6_bitCount_0f7a4 1 = .ok (.iload_n 0, 1) := by decide +kernel
theorem dJ6_bitCount_0f7a4_2 : decode cJ6_bitCount_0f7a4 2 = .ok (.iconst 1, 1) := by decide +kernel
theorem dJ6_bitCount_0f7a4_3 : decode cJ6_bitCount_0f7a4 3 = .ok (.iushr, 1) := by decide +kernel
theorem dJ6_bitCount_0f7a4_4 : decode cJ6_bitCount_0f7a4 4 = .ok (.ldc_w 265, 3) := by decide +kernel
theorem dJ6_bitCount_0f7a4_7 : decode cJ6_bitCount_0f7a4 7 = .ok (.iand, 1) := by decide +kernel
theorem dJ6_bitCount_0f7a4_8 : decode cJ6_bitCount_0f7a4 8 = .ok (.isub, 1) := by decide +kernel
theorem dJ6_bitCount_0f7a4_9 : decode cJ6_bitCount_0f7a4 9 = .ok (.istore_n 0, 1) := by decide +kernel
theorem dJ6_bitCount_0f7a4_10 : decode cJ6_bitCount_0f7a4 10 = .ok (.iload_n 0, 1) := by decide +kernel
theorem dJ6_bitCount_0f7a4_11 : decode cJ6_bitCount_0f7a4 11 = .ok (.ldc_w 266, 3) := by decide +kernel
theorem dJ6_bitCount_0f7a4_14 : decode cJ6_bitCount_0f7a4 14 = .ok (.iand, 1) := by decide +kernel
theorem dJ6_bitCount_0f7a4_15 : decode cJ6_bitCount_0f7a4 15 = .ok (.iload_n 0, 1) := by decide +kernel
theorem dJ6_bitCount_0f7a4_16 : decode cJ6_bitCount_0f7a4 16 = .ok (.iconst 2, 1) := by decide +kernel
theorem dJ6_bitCount_0f7a4_17 : decode cJ6_bitCount_0f7a4 17 = .ok (.iushr, 1) := by decide +kernel
theorem dJ6_bitCount_0f7a4_18 : decode cJ6_bitCount_0f7a4 18 = .ok (.ldc_w 266, 3) := by decide +kernel
theorem dJ6_bitCount_0f7a4_21 : decode cJ6_bitCount_0f7a4 21 = .ok (.iand, 1) := by decide +kernel
theorem dJ6_bitCount_0f7a4_22 : decode cJ6_bitCount_0f7a4 22 = .ok (.iadd, 1) := by decide +kernel
theorem dJ6_bitCount_0f7a4_23 : decode cJ6_bitCount_0f7a4 23 = .ok (.istore_n 0, 1) := by decide +kernel
theorem dJ6_bitCount_0f7a4_24 : decode cJ6_bitCount_0f7a4 24 = .ok (.iload_n 0, 1) := by decide +kernel
theorem dJ6_bitCount_0f7a4_25 : decode cJ6_bitCount_0f7a4 25 = .ok (.iload_n 0, 1) := by decide +kernel
theorem dJ6_bitCount_0f7a4_26 : decode cJ6_bitCount_0f7a4 26 = .ok (.iconst 4, 1) := by decide +kernel
theorem dJ6_bitCount_0f7a4_27 : decode cJ6_bitCount_0f7a4 27 = .ok (.iushr, 1) := by decide +kernel
theorem dJ6_bitCount_0f7a4_28 : decode cJ6_bitCount_0f7a4 28 = .ok (.iadd, 1) := by decide +kernel
theorem dJ6_bitCount_0f7a4_29 : decode cJ6_bitCount_0f7a4 29 = .ok (.ldc_w 267, 3) := by decide +kernel
theorem dJ6_bitCount_0f7a4_32 : decode cJ6_bitCount_0f7a4 32 = .ok (.iand, 1) := by decide +kernel
theorem dJ6_bitCount_0f7a4_33 : decode cJ6_bitCount_0f7a4 33 = .ok (.istore_n 0, 1) := by decide +kernel
theorem dJ6_bitCount_0f7a4_34 : decode cJ6_bitCount_0f7a4 34 = .ok (.iload_n 0, 1) := by decide +kernel
theorem dJ6_bitCount_0f7a4_35 : decode cJ6_bitCount_0f7a4 35 = .ok (.iload_n 0, 1) := by decide +kernel
theorem dJ6_bitCount_0f7a4_36 : decode cJ6_bitCount_0f7a4 36 = .ok (.bipush 8, 2) := by decide +kernel
theorem dJ6_bitCount_0f7a4_38 : decode cJ6_bitCount_0f7a4 38 = .ok (.iushr, 1) := by decide +kernel
theorem dJ6_bitCount_0f7a4_39 : decode cJ6_bitCount_0f7a4 39 = .ok (.iadd, 1) := by decide +kernel
theorem dJ6_bitCount_0f7a4_40 : decode cJ6_bitCount_0f7a4 40 = .ok (.istore_n 0, 1) := by decide +kernel
theorem dJ6_bitCount_0f7a4_41 : decode cJ6_bitCount_0f7a4 41 = .ok (.iload_n 0, 1) := by decide +kernel
theorem dJ6_bitCount_0f7a4_42 : decode cJ6_bitCount_0f7a4 42 = .ok (.iload_n 0, 1) := by decide +kernel
theorem dJ6_bitCount_0f7a4_43 : decode cJ6_bitCount_0f7a4 43 = .ok (.bipush 16, 2) := by decide +kernel
theorem dJ6_bitCount_0f7a4_45 : decode cJ6_bitCount_0f7a4 45 = .ok (.iushr, 1) := by decide +kernel
theorem dJ6_bitCount_0f7a4_46 : decode cJ6_bitCount_0f7a4 46 = .ok (.iadd, 1) := by decide +kernel
theorem dJ6_bitCount_0f7a4_47 : decode cJ6_bitCount_0f7a4 47 = .ok (.istore_n 0, 1) := by decide +kernel
theorem dJ6_bitCount_0f7a4_48 : decode cJ6_bitCount_0f7a4 48 = .ok (.iload_n 0, 1) := by decide +kernel
theorem dJ6_bitCount_0f7a4_49 : decode cJ6_bitCount_0f7a4 49 = .ok (.bipush 63, 2) := by decide +kernel
theorem dJ6_bitCount_0f7a4_51 : decode cJ6_bitCount_0f7a4 51 = .ok (.iand, 1) := by decide +kernel
theorem dJ6_bitCount_0f7a4_52 : decode cJ6_bitCount_0f7a4 52 = .ok (.ireturn, 1) := by decide +kernel
theorem dJ9_abs_0f7a4_0 : decode cJ9_abs_0f7a4 0 = .ok (.iload_n 0, 1) := by decide +kernel
theorem dJ9_abs_0f7a4_1 : decode cJ9_abs_0f7a4 1 = .ok (.ifCond .ge 8, 3) := by decide +kernel
theorem dJ9_abs_0f7a4_4 : decode cJ9_abs_0f7a4 4 = .ok (.iload_n 0, 1) := by decide +kernel
theorem dJ9_abs_0f7a4_5 : decode cJ9_abs_0f7a4 5 = .ok (.ineg, 1) := by decide +kernel
theorem dJ9_abs_0f7a4_6 : decode cJ9_abs_0f7a4 6 = .ok (.goto 4, 3) := by decide +kernel
theorem dJ9_abs_0f7a4_9 : decode cJ9_abs_0f7a4 9 = .ok (.iload_n 0, 1) := by decide +kernel
theorem dJ9_abs_0f7a4_10 : decode cJ9_abs_0f7a4 10 = .ok (.ireturn, 1) := by decide +kernel
theorem dJ9_max_7cf53_0 : decode cJ9_max_7cf53 0 = .ok (.iload_n 0, 1) := by decide +kernel
theorem dJ9_max_7cf53_1 : decode cJ9_max_7cf53 1 = .ok (.iload_n 1, 1) := by decide +kernel
theorem dJ9_max_7cf53_2 : decode cJ9_max_7cf53 2 = .ok (.if_icmp .lt 7, 3) := by decide +kernel
theorem dJ9_max_7cf53_5 : decode cJ9_max_7cf53 5 = .ok (.iload_n 0, 1) := by decide +kernel
theorem dJ9_max_7cf53_6 : decode cJ9_max_7cf53 6 = .ok (.goto 4, 3) := by decide +kernel
theorem dJ9_max_7cf53_9 : decode cJ9_max_7cf53 9 = .ok (.iload_n 1, 1) := by decide +kernel
theorem dJ9_max_7cf53_10 : decode cJ9_max_7cf53 10 = .ok (.ireturn, 1) := by decide +kernel
theorem dJ9_max_f86c9_0 : decode cJ9_max_f86c9 0 = .ok (.lload_n 0, 1) := by decide +kernel
theorem dJ9_max_f86c9_1 : decode cJ9_max_f86c9 1 = .ok (.lload_n 2, 1) := by decide +kernel
theorem dJ9_max_f86c9_2 : decode cJ9_max_f86c9 2 = .ok (.lcmp, 1) := by decide +kernel
theorem dJ9_max_f86c9_3 : decode cJ9_max_f86c9 3 = .ok (.ifCond .lt 7, 3) := by decide +kernel
theorem dJ9_max_f86c9_6 : decode cJ9_max_f86c9 6 = .ok (.lload_n 0, 1) := by decide +kernel
theorem dJ9_max_f86c9_7 : decode cJ9_max_f86c9 7 = .ok (.goto 4, 3) := by decide +kernel
theorem dJ9_max_f86c9_10 : decode cJ9_max_f86c9 10 = .ok (.lload_n 2, 1) := by decide +kernel
theorem dJ9_max_f86c9_11 : decode cJ9_max_f86c9 11 = .ok (.lreturn, 1) := by decide +kernel
theorem dJ9_min_7cf53_0 : decode cJ9_min_7cf53 0 = .ok (.iload_n 0, 1) := by decide +kernel
theorem dJ9_min_7cf53_1 : decode cJ9_min_7cf53 1 = .ok (.iload_n 1, 1) := by decide +kernel
theorem dJ9_min_7cf53_2 : decode cJ9_min_7cf53 2 = .ok (.if_icmp .gt 7, 3) := by decide +kernel
theorem dJ9_min_7cf53_5 : decode cJ9_min_7cf53 5 = .ok (.iload_n 0, 1) := by decide +kernel
theorem dJ9_min_7cf53_6 : decode cJ9_min_7cf53 6 = .ok (.goto 4, 3) := by decide +kernel
theorem dJ9_min_7cf53_9 : decode cJ9_min_7cf53 9 = .ok (.iload_n 1, 1) := by decide +kernel
theorem dJ9_min_7cf53_10 : decode cJ9_min_7cf53 10 = .ok (.ireturn, 1) := by decide +kernel
theorem dJ9_min_f86c9_0 : decode cJ9_min_f86c9 0 = .ok (.lload_n 0, 1) := by decide +kernel
theorem dJ9_min_f86c9_1 : decode cJ9_min_f86c9 1 = .ok (.lload_n 2, 1) := by decide +kernel
theorem dJ9_min_f86c9_2 : decode cJ9_min_f86c9 2 = .ok (.lcmp, 1) := by decide +kernel
theorem dJ9_min_f86c9_3 : decode cJ9_min_f86c9 3 = .ok (.ifCond .gt 7, 3) := by decide +kernel
theorem dJ9_min_f86c9_6 : decode cJ9_min_f86c9 6 = .ok (.lload_n 0, 1) := by decide +kernel
theorem dJ9_min_f86c9_7 : decode cJ9_min_f86c9 7 = .ok (.goto 4, 3) := by decide +kernel
theorem dJ9_min_f86c9_10 : decode cJ9_min_f86c9 10 = .ok (.lload_n 2, 1) := by decide +kernel
theorem dJ9_min_f86c9_11 : decode cJ9_min_f86c9 11 = .ok (.lreturn, 1) := by decide +kernel
theorem dJ7_fill_53178_0 : decode cJ7_fill_53178 0 = .ok (.iconst 0, 1) := by decide +kernel
theorem dJ7_fill_53178_1 : decode cJ7_fill_53178 1 = .ok (.istore_n 2, 1) := by decide +kernel
theorem dJ7_fill_53178_2 : decode cJ7_fill_53178 2 = .ok (.aload_n 0, 1) := by decide +kernel
theorem dJ7_fill_53178_3 : decode cJ7_fill_53178 3 = .ok (.arraylength, 1) := by decide +kernel
theorem dJ7_fill_53178_4 : decode cJ7_fill_53178 4 = .ok (.istore_n 3, 1) := by decide +kernel
theorem dJ7_fill_53178_5 : decode cJ7_fill_53178 5 = .ok (.iload_n 2, 1) := by decide +kernel
theorem dJ7_fill_53178_6 : decode cJ7_fill_53178 6 = .ok (.iload_n 3, 1) := by decide +kernel
theorem dJ7_fill_53178_7 : decode cJ7_fill_53178 7 = .ok (.if_icmp .ge 13, 3) := by decide +kernel
theorem dJ7_fill_53178_10 : decode cJ7_fill_53178 10 = .ok (.aload_n 0, 1) := by decide +kernel
theorem dJ7_fill_53178_11 : decode cJ7_fill_53178 11 = .ok (.iload_n 2, 1) := by decide +kernel
theorem dJ7_fill_53178_12 : decode cJ7_fill_53178 12 = .ok (.iload_n 1, 1) := by decide +kernel
theorem dJ7_fill_53178_13 : decode cJ7_fill_53178 13 = .ok (.iastore, 1) := by decide +kernel
theorem dJ7_fill_53178_14 : decode cJ7_fill_53178 14 = .ok (.iinc 2 1, 3) := by decide +kernel
theorem dJ7_fill_53178_17 : decode cJ7_fill_53178 17 = .ok (.goto (-12), 3) := by decide +kernel
theorem dJ7_fill_53178_20 : decode cJ7_fill_53178 20 = .ok (.return_, 1) := by decide +kernel
