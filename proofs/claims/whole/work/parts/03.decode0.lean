theorem dX0_init_0 : decode cX0_init 0 = .ok (.aload_n 0, 1) := by decide +kernel
theorem dX0_init_1 : decode cX0_init 1 = .ok (.invokespecial 3, 3) := by decide +kernel
theorem dX0_init_4 : decode cX0_init 4 = .ok (.aload_n 0, 1) := by decide +kernel
theorem dX0_init_5 : decode cX0_init 5 = .ok (.bipush 10, 2) := by decide +kernel
theorem dX0_init_7 : decode cX0_init 7 = .ok (.newarray .int, 2) := by decide +kernel
theorem dX0_init_9 : decode cX0_init 9 = .ok (.putfield 9, 3) := by decide +kernel
theorem dX0_init_12 : decode cX0_init 12 = .ok (.aload_n 0, 1) := by decide +kernel
theorem dX0_init_13 : decode cX0_init 13 = .ok (.bipush 10, 2) := by decide +kernel
theorem dX0_init_15 : decode cX0_init 15 = .ok (.newarray .int, 2) := by decide +kernel
theorem dX0_init_17 : decode cX0_init 17 = .ok (.putfield 15, 3) := by decide +kernel
theorem dX0_init_20 : decode cX0_init 20 = .ok (.aload_n 0, 1) := by decide +kernel
theorem dX0_init_21 : decode cX0_init 21 = .ok (.bipush 10, 2) := by decide +kernel
theorem dX0_init_23 : decode cX0_init 23 = .ok (.newarray .boolean, 2) := by decide +kernel
theorem dX0_init_25 : decode cX0_init 25 = .ok (.putfield 18, 3) := by decide +kernel
theorem dX0_init_28 : decode cX0_init 28 = .ok (.aload_n 0, 1) := by decide +kernel
theorem dX0_init_29 : decode cX0_init 29 = .ok (.bipush 31, 2) := by decide +kernel
theorem dX0_init_31 : decode cX0_init 31 = .ok (.newarray .int, 2) := by decide +kernel
theorem dX0_init_33 : decode cX0_init 33 = .ok (.putfield 22, 3) := by decide +kernel
theorem dX0_init_36 : decode cX0_init 36 = .ok (.aload_n 0, 1) := by decide +kernel
theorem dX0_init_37 : decode cX0_init 37 = .ok (.bipush 70, 2) := by decide +kernel
theorem dX0_init_39 : decode cX0_init 39 = .ok (.newarray .int, 2) := by decide +kernel
theorem dX0_init_41 : decode cX0_init 41 = .ok (.putfield 25, 3) := by decide +kernel
theorem dX0_init_44 : decode cX0_init 44 = .ok (.aload_n 0, 1) := by decide +kernel
theorem dX0_init_45 : decode cX0_init 45 = .ok (.aload_n 1, 1) := by decide +kernel
theorem dX0_init_46 : decode cX0_init 46 = .ok (.putfield 28, 3) := by decide +kernel
theorem dX0_init_49 : decode cX0_init 49 = .ok (.aload_n 0, 1) := by decide +kernel
theorem dX0_init_50 : decode cX0_init 50 = .ok (.aload_n 2, 1) := by decide +kernel
theorem dX0_init_51 : decode cX0_init 51 = .ok (.putfield 32, 3) := by decide +kernel
theorem dX0_init_54 : decode cX0_init 54 = .ok (.aload_n 0, 1) := by decide +kernel
theorem dX0_init_55 : decode cX0_init 55 = .ok (.aload_n 3, 1) := by decide +kernel
theorem dX0_init_56 : decode cX0_init 56 = .ok (.putfield 36, 3) := by decide +kernel
theorem dX0_init_59 : decode cX0_init 59 = .ok (.return_, 1) := by decide +kernel
theorem dX0_forgetAll_0 : decode cX0_forgetAll 0 = .ok (.aload_n 0, 1) := by decide +kernel
theorem dX0_forgetAll_1 : decode cX0_forgetAll 1 = .ok (.iconst 0, 1) := by decide +kernel
theorem dX0_forgetAll_2 : decode cX0_forgetAll 2 = .ok (.putfield 40, 3) := by decide +kernel
theorem dX0_forgetAll_5 : decode cX0_forgetAll 5 = .ok (.return_, 1) := by decide +kernel
theorem dX0_size_0 : decode cX0_size 0 = .ok (.aload_n 0, 1) := by decide +kernel
theorem dX0_size_1 : decode cX0_size 1 = .ok (.getfield 40, 3) := by decide +kernel
theorem dX0_size_4 : decode cX0_size 4 = .ok (.ireturn, 1) := by decide +kernel
theorem dX0_add_0 : decode cX0_add 0 = .ok (.aload_n 0, 1) := by decide +kernel
theorem dX0_add_1 : decode cX0_add 1 = .ok (.getfield 40, 3) := by decide +kernel
theorem dX0_add_4 : decode cX0_add 4 = .ok (.bipush 10, 2) := by decide +kernel
theorem dX0_add_6 : decode cX0_add 6 = .ok (.if_icmp .ge 43, 3) := by decide +kernel
theorem dX0_add_9 : decode cX0_add 9 = .ok (.aload_n 0, 1) := by decide +kernel
theorem dX0_add_10 : decode cX0_add 10 = .ok (.getfield 9, 3) := by decide +kernel
theorem dX0_add_13 : decode cX0_add 13 = .ok (.aload_n 0, 1) := by decide +kernel
theorem dX0_add_14 : decode cX0_add 14 = .ok (.getfield 40, 3) := by decide +kernel
theorem dX0_add_17 : decode cX0_add 17 = .ok (.iload_n 1, 1) := by decide +kernel
theorem dX0_add_18 : decode cX0_add 18 = .ok (.iastore, 1) := by decide +kernel
theorem dX0_add_19 : decode cX0_add 19 = .ok (.aload_n 0, 1) := by decide +kernel
theorem dX0_add_20 : decode cX0_add 20 = .ok (.getfield 15, 3) := by decide +kernel
theorem dX0_add_23 : decode cX0_add 23 = .ok (.aload_n 0, 1) := by decide +kernel
theorem dX0_add_24 : decode cX0_add 24 = .ok (.getfield 40, 3) := by decide +kernel
theorem dX0_add_27 : decode cX0_add 27 = .ok (.iload_n 2, 1) := by decide +kernel
theorem dX0_add_28 : decode cX0_add 28 = .ok (.iastore, 1) := by decide +kernel
theorem dX0_add_29 : decode cX0_add 29 = .ok (.aload_n 0, 1) := by decide +kernel
theorem dX0_add_30 : decode cX0_add 30 = .ok (.getfield 18, 3) := by decide +kernel
theorem dX0_add_33 : decode cX0_add 33 = .ok (.aload_n 0, 1) := by decide +kernel
theorem dX0_add_34 : decode cX0_add 34 = .ok (.getfield 40, 3) := by decide +kernel
theorem dX0_add_37 : decode cX0_add 37 = .ok (.iload_n 3, 1) := by decide +kernel
theorem dX0_add_38 : decode cX0_add 38 = .ok (.bastore, 1) := by decide +kernel
theorem dX0_add_39 : decode cX0_add 39 = .ok (.aload_n 0, 1) := by decide +kernel
theorem dX0_add_40 : decode cX0_add 40 = .ok (.dup, 1) := by decide +kernel
theorem dX0_add_41 : decode cX0_add 41 = .ok (.getfield 40, 3) := by decide +kernel
theorem dX0_add_44 : decode cX0_add 44 = .ok (.iconst 1, 1) := by decide +kernel
theorem dX0_add_45 : decode cX0_add 45 = .ok (.iadd, 1) := by decide +kernel
theorem dX0_add_46 : decode cX0_add 46 = .ok (.putfield 40, 3) := by decide +kernel
theorem dX0_add_49 : decode cX0_add 49 = .ok (.return_, 1) := by decide +kernel
theorem dX0_areAllSo_0 : decode cX0_areAllSo 0 = .ok (.iconst 0, 1) := by decide +kernel
theorem dX0_areAllSo_1 : decode cX0_areAllSo 1 = .ok (.istore_n 1, 1) := by decide +kernel
theorem dX0_areAllSo_2 : decode cX0_areAllSo 2 = .ok (.iload_n 1, 1) := by decide +kernel
theorem dX0_areAllSo_3 : decode cX0_areAllSo 3 = .ok (.aload_n 0, 1) := by decide +kernel
theorem dX0_areAllSo_4 : decode cX0_areAllSo 4 = .ok (.getfield 40, 3) := by decide +kernel
theorem dX0_areAllSo_7 : decode cX0_areAllSo 7 = .ok (.if_icmp .ge 47, 3) := by decide +kernel
theorem dX0_areAllSo_10 : decode cX0_areAllSo 10 = .ok (.aload_n 0, 1) := by decide +kernel
theorem dX0_areAllSo_11 : decode cX0_areAllSo 11 = .ok (.getfield 36, 3) := by decide +kernel
theorem dX0_areAllSo_14 : decode cX0_areAllSo 14 = .ok (.aload_n 0, 1) := by decide +kernel
theorem dX0_areAllSo_15 : decode cX0_areAllSo 15 = .ok (.getfield 9, 3) := by decide +kernel
theorem dX0_areAllSo_18 : decode cX0_areAllSo 18 = .ok (.iload_n 1, 1) := by decide +kernel
theorem dX0_areAllSo_19 : decode cX0_areAllSo 19 = .ok (.iaload, 1) := by decide +kernel
theorem dX0_areAllSo_20 : decode cX0_areAllSo 20 = .ok (.invokevirtual 44, 3) := by decide +kernel
theorem dX0_areAllSo_23 : decode cX0_areAllSo 23 = .ok (.aload_n 0, 1) := by decide +kernel
theorem dX0_areAllSo_24 : decode cX0_areAllSo 24 = .ok (.getfield 15, 3) := by decide +kernel
theorem dX0_areAllSo_27 : decode cX0_areAllSo 27 = .ok (.iload_n 1, 1) := by decide +kernel
theorem dX0_areAllSo_28 : decode cX0_areAllSo 28 = .ok (.iaload, 1) := by decide +kernel
theorem dX0_areAllSo_29 : decode cX0_areAllSo 29 = .ok (.if_icmp .ne 7, 3) := by decide +kernel
theorem dX0_areAllSo_32 : decode cX0_areAllSo 32 = .ok (.iconst 1, 1) := by decide +kernel
theorem dX0_areAllSo_33 : decode cX0_areAllSo 33 = .ok (.goto 4, 3) := by decide +kernel
theorem dX0_areAllSo_36 : decode cX0_areAllSo 36 = .ok (.iconst 0, 1) := by decide +kernel
theorem dX0_areAllSo_37 : decode cX0_areAllSo 37 = .ok (.aload_n 0, 1) := by decide +kernel
theorem dX0_areAllSo_38 : decode cX0_areAllSo 38 = .ok (.getfield 18, 3) := by decide +kernel
theorem dX0_areAllSo_41 : decode cX0_areAllSo 41 = .ok (.iload_n 1, 1) := by decide +kernel
theorem dX0_areAllSo_42 : decode cX0_areAllSo 42 = .ok (.baload, 1) := by decide +kernel
theorem dX0_areAllSo_43 : decode cX0_areAllSo 43 = .ok (.if_icmp .eq 5, 3) := by decide +kernel
theorem dX0_areAllSo_46 : decode cX0_areAllSo 46 = .ok (.iconst 0, 1) := by decide +kernel
theorem dX0_areAllSo_47 : decode cX0_areAllSo 47 = .ok (.ireturn, 1) := by decide +kernel
theorem dX0_areAllSo_48 : decode cX0_areAllSo 48 = .ok (.iinc 1 1, 3) := by decide +kernel
theorem dX0_areAllSo_51 : decode cX0_areAllSo 51 = .ok (.goto (-49), 3) := by decide +kernel
theorem dX0_areAllSo_54 : decode cX0_areAllSo 54 = .ok (.iconst 1, 1) := by decide +kernel
theorem dX0_areAllSo_55 : decode cX0_areAllSo 55 = .ok (.ireturn, 1) := by decide +kernel
theorem dX0_search_0 : decode cX0_search 0 = .ok (.aload_n 0, 1) := by decide +kernel
theorem dX0_search_1 : decode cX0_search 1 = .ok (.iconst 0, 1) := by decide +kernel
theorem dX0_search_2 : decode cX0_search 2 = .ok (.putfield 50, 3) := by decide +kernel
theorem dX0_search_5 : decode cX0_search 5 = .ok (.aload_n 0, 1) := by decide +kernel
theorem dX0_search_6 : decode cX0_search 6 = .ok (.getfield 36, 3) := by decide +kernel
theorem dX0_search_9 : decode cX0_search 9 = .ok (.invokevirtual 53, 3) := by decide +kernel
theorem dX0_search_12 : decode cX0_search 12 = .ok (.iconst 0, 1) := by decide +kernel
theorem dX0_search_13 : decode cX0_search 13 = .ok (.istore_n 1, 1) := by decide +kernel
theorem dX0_search_14 : decode cX0_search 14 = .ok (.iload_n 1, 1) := by decide +kernel
theorem dX0_search_15 : decode cX0_search 15 = .ok (.aload_n 0, 1) := by decide +kernel
theorem dX0_search_16 : decode cX0_search 16 = .ok (.getfield 28, 3) := by decide +kernel
theorem dX0_search_19 : decode cX0_search 19 = .ok (.invokevirtual 56, 3) := by decide +kernel
theorem dX0_search_22 : decode cX0_search 22 = .ok (.if_icmp .ge 77, 3) := by decide +kernel
theorem dX0_search_25 : decode cX0_search 25 = .ok (.aload_n 0, 1) := by decide +kernel
theorem dX0_search_26 : decode cX0_search 26 = .ok (.getfield 32, 3) := by decide +kernel
theorem dX0_search_29 : decode cX0_search 29 = .ok (.iload_n 1, 1) := by decide +kernel
theorem dX0_search_30 : decode cX0_search 30 = .ok (.invokevirtual 62, 3) := by decide +kernel
theorem dX0_search_33 : decode cX0_search 33 = .ok (.istore_n 2, 1) := by decide +kernel
theorem dX0_search_34 : decode cX0_search 34 = .ok (.iconst 0, 1) := by decide +kernel
theorem dX0_search_35 : decode cX0_search 35 = .ok (.istore_n 3, 1) := by decide +kernel
theorem dX0_search_36 : decode cX0_search 36 = .ok (.iload_n 3, 1) := by decide +kernel
theorem dX0_search_37 : decode cX0_search 37 = .ok (.aload_n 0, 1) := by decide +kernel
theorem dX0_search_38 : decode cX0_search 38 = .ok (.getfield 28, 3) := by decide +kernel
theorem dX0_search_41 : decode cX0_search 41 = .ok (.invokevirtual 67, 3) := by decide +kernel
theorem dX0_search_44 : decode cX0_search 44 = .ok (.if_icmp .ge 49, 3) := by decide +kernel
theorem dX0_search_47 : decode cX0_search 47 = .ok (.iload_n 2, 1) := by decide +kernel
theorem dX0_search_48 : decode cX0_search 48 = .ok (.iconst (-1), 1) := by decide +kernel
theorem dX0_search_49 : decode cX0_search 49 = .ok (.if_icmp .eq 44, 3) := by decide +kernel
theorem dX0_search_52 : decode cX0_search 52 = .ok (.iload_n 3, 1) := by decide +kernel
theorem dX0_search_53 : decode cX0_search 53 = .ok (.iload_n 2, 1) := by decide +kernel
theorem dX0_search_54 : decode cX0_search 54 = .ok (.if_icmp .eq 33, 3) := by decide +kernel
theorem dX0_search_57 : decode cX0_search 57 = .ok (.aload_n 0, 1) := by decide +kernel
theorem dX0_search_58 : decode cX0_search 58 = .ok (.getfield 36, 3) := by decide +kernel
theorem dX0_search_61 : decode cX0_search 61 = .ok (.iload_n 1, 1) := by decide +kernel
theorem dX0_search_62 : decode cX0_search 62 = .ok (.iload_n 2, 1) := by decide +kernel
theorem dX0_search_63 : decode cX0_search 63 = .ok (.iload_n 3, 1) := by decide +kernel
theorem dX0_search_64 : decode cX0_search 64 = .ok (.invokevirtual 70, 3) := by decide +kernel
theorem dX0_search_67 : decode cX0_search 67 = .ok (.aload_n 0, 1) := by decide +kernel
theorem dX0_search_68 : decode cX0_search 68 = .ok (.bipush 10, 2) := by decide +kernel
theorem dX0_search_70 : decode cX0_search 70 = .ok (.iload_n 1, 1) := by decide +kernel
theorem dX0_search_71 : decode cX0_search 71 = .ok (.imul, 1) := by decide +kernel
theorem dX0_search_72 : decode cX0_search 72 = .ok (.iload_n 3, 1) := by decide +kernel
theorem dX0_search_73 : decode cX0_search 73 = .ok (.iadd, 1) := by decide +kernel
theorem dX0_search_74 : decode cX0_search 74 = .ok (.invokevirtual 74, 3) := by decide +kernel
theorem dX0_search_77 : decode cX0_search 77 = .ok (.aload_n 0, 1) := by decide +kernel
theorem dX0_search_78 : decode cX0_search 78 = .ok (.getfield 36, 3) := by decide +kernel
theorem dX0_search_81 : decode cX0_search 81 = .ok (.iload_n 1, 1) := by decide +kernel
theorem dX0_search_82 : decode cX0_search 82 = .ok (.iload_n 3, 1) := by decide +kernel
theorem dX0_search_83 : decode cX0_search 83 = .ok (.iload_n 2, 1) := by decide +kernel
theorem dX0_search_84 : decode cX0_search 84 = .ok (.invokevirtual 70, 3) := by decide +kernel
theorem dX0_search_87 : decode cX0_search 87 = .ok (.iinc 3 1, 3) := by decide +kernel
theorem dX0_search_90 : decode cX0_search 90 = .ok (.goto (-54), 3) := by decide +kernel
theorem dX0_search_93 : decode cX0_search 93 = .ok (.iinc 1 1, 3) := by decide +kernel
theorem dX0_search_96 : decode cX0_search 96 = .ok (.goto (-82), 3) := by decide +kernel
theorem dX0_search_99 : decode cX0_search 99 = .ok (.aload_n 0, 1) := by decide +kernel
theorem dX0_search_100 : decode cX0_search 100 = .ok (.bipush 99, 2) := by decide +kernel
theorem dX0_search_102 : decode cX0_search 102 = .ok (.invokevirtual 74, 3) := by decide +kernel
theorem dX0_search_105 : decode cX0_search 105 = .ok (.aload_n 0, 1) := by decide +kernel
theorem dX0_search_106 : decode cX0_search 106 = .ok (.getfield 50, 3) := by decide +kernel
theorem dX0_search_109 : decode cX0_search 109 = .ok (.ireturn, 1) := by decide +kernel
theorem dX0_keepIfSo_0 : decode cX0_keepIfSo 0 = .ok (.aload_n 0, 1) := by decide +kernel
theorem dX0_keepIfSo_1 : decode cX0_keepIfSo 1 = .ok (.getfield 50, 3) := by decide +kernel
theorem dX0_keepIfSo_4 : decode cX0_keepIfSo 4 = .ok (.aload_n 0, 1) := by decide +kernel
theorem dX0_keepIfSo_5 : decode cX0_keepIfSo 5 = .ok (.getfield 22, 3) := by decide +kernel
theorem dX0_keepIfSo_8 : decode cX0_keepIfSo 8 = .ok (.arraylength, 1) := by decide +kernel
theorem dX0_keepIfSo_9 : decode cX0_keepIfSo 9 = .ok (.if_icmp .ge 30, 3) := by decide +kernel
theorem dX0_keepIfSo_12 : decode cX0_keepIfSo 12 = .ok (.aload_n 0, 1) := by decide +kernel
theorem dX0_keepIfSo_13 : decode cX0_keepIfSo 13 = .ok (.invokevirtual 78, 3) := by decide +kernel
theorem dX0_keepIfSo_16 : decode cX0_keepIfSo 16 = .ok (.ifCond .eq 23, 3) := by decide +kernel
theorem dX0_keepIfSo_19 : decode cX0_keepIfSo 19 = .ok (.aload_n 0, 1) := by decide +kernel
theorem dX0_keepIfSo_20 : decode cX0_keepIfSo 20 = .ok (.getfield 22, 3) := by decide +kernel
theorem dX0_keepIfSo_23 : decode cX0_keepIfSo 23 = .ok (.aload_n 0, 1) := by decide +kernel
theorem dX0_keepIfSo_24 : decode cX0_keepIfSo 24 = .ok (.getfield 50, 3) := by decide +kernel
theorem dX0_keepIfSo_27 : decode cX0_keepIfSo 27 = .ok (.iload_n 1, 1) := by decide +kernel
theorem dX0_keepIfSo_28 : decode cX0_keepIfSo 28 = .ok (.iastore, 1) := by decide +kernel
theorem dX0_keepIfSo_29 : decode cX0_keepIfSo 29 = .ok (.aload_n 0, 1) := by decide +kernel
theorem dX0_keepIfSo_30 : decode cX0_keepIfSo 30 = .ok (.dup, 1) := by decide +kernel
theorem dX0_keepIfSo_31 : decode cX0_keepIfSo 31 = .ok (.getfield 50, 3) := by decide +kernel
theorem dX0_keepIfSo_34 : decode cX0_keepIfSo 34 = .ok (.iconst 1, 1) := by decide +kernel
theorem dX0_keepIfSo_35 : decode cX0_keepIfSo 35 = .ok (.iadd, 1) := by decide +kernel
theorem dX0_keepIfSo_36 : decode cX0_keepIfSo 36 = .ok (.putfield 50, 3) := by decide +kernel
theorem dX0_keepIfSo_39 : decode cX0_keepIfSo 39 = .ok (.return_, 1) := by decide +kernel
theorem dX0_fittingAt_0 : decode cX0_fittingAt 0 = .ok (.iload_n 1, 1) := by decide +kernel
theorem dX0_fittingAt_1 : decode cX0_fittingAt 1 = .ok (.ifCond .lt 20, 3) := by decide +kernel
theorem dX0_fittingAt_4 : decode cX0_fittingAt 4 = .ok (.iload_n 1, 1) := by decide +kernel
theorem dX0_fittingAt_5 : decode cX0_fittingAt 5 = .ok (.aload_n 0, 1) := by decide +kernel
theorem dX0_fittingAt_6 : decode cX0_fittingAt 6 = .ok (.getfield 50, 3) := by decide +kernel
theorem dX0_fittingAt_9 : decode cX0_fittingAt 9 = .ok (.if_icmp .ge 12, 3) := by decide +kernel
theorem dX0_fittingAt_12 : decode cX0_fittingAt 12 = .ok (.aload_n 0, 1) := by decide +kernel
theorem dX0_fittingAt_13 : decode cX0_fittingAt 13 = .ok (.getfield 22, 3) := by decide +kernel
theorem dX0_fittingAt_16 : decode cX0_fittingAt 16 = .ok (.iload_n 1, 1) := by decide +kernel
theorem dX0_fittingAt_17 : decode cX0_fittingAt 17 = .ok (.iaload, 1) := by decide +kernel
theorem dX0_fittingAt_18 : decode cX0_fittingAt 18 = .ok (.goto 4, 3) := by decide +kernel
theorem dX0_fittingAt_21 : decode cX0_fittingAt 21 = .ok (.iconst (-1), 1) := by decide +kernel
theorem dX0_fittingAt_22 : decode cX0_fittingAt 22 = .ok (.ireturn, 1) := by decide +kernel
theorem dX0_placeToLook_0 : decode cX0_placeToLook 0 = .ok (.aload_n 0, 1) := by decide +kernel
theorem dX0_placeToLook_1 : decode cX0_placeToLook 1 = .ok (.invokevirtual 82, 3) := by decide +kernel
theorem dX0_placeToLook_4 : decode cX0_placeToLook 4 = .ok (.ifCond .ne 5, 3) := by decide +kernel
theorem dX0_placeToLook_7 : decode cX0_placeToLook 7 = .ok (.iconst (-1), 1) := by decide +kernel
theorem dX0_placeToLook_8 : decode cX0_placeToLook 8 = .ok (.ireturn, 1) := by decide +kernel
theorem dX0_placeToLook_9 : decode cX0_placeToLook 9 = .ok (.aload_n 0, 1) := by decide +kernel
theorem dX0_placeToLook_10 : decode cX0_placeToLook 10 = .ok (.getfield 25, 3) := by decide +kernel
theorem dX0_placeToLook_13 : decode cX0_placeToLook 13 = .ok (.iconst 0, 1) := by decide +kernel
theorem dX0_placeToLook_14 : decode cX0_placeToLook 14 = .ok (.invokestatic 85, 3) := by decide +kernel
theorem dX0_placeToLook_17 : decode cX0_placeToLook 17 = .ok (.iconst 0, 1) := by decide +kernel
theorem dX0_placeToLook_18 : decode cX0_placeToLook 18 = .ok (.istore_n 1, 1) := by decide +kernel
theorem dX0_placeToLook_19 : decode cX0_placeToLook 19 = .ok (.iload_n 1, 1) := by decide +kernel
theorem dX0_placeToLook_20 : decode cX0_placeToLook 20 = .ok (.aload_n 0, 1) := by decide +kernel
theorem dX0_placeToLook_21 : decode cX0_placeToLook 21 = .ok (.getfield 50, 3) := by decide +kernel
theorem dX0_placeToLook_24 : decode cX0_placeToLook 24 = .ok (.if_icmp .ge 19, 3) := by decide +kernel
theorem dX0_placeToLook_27 : decode cX0_placeToLook 27 = .ok (.aload_n 0, 1) := by decide +kernel
theorem dX0_placeToLook_28 : decode cX0_placeToLook 28 = .ok (.aload_n 0, 1) := by decide +kernel
theorem dX0_placeToLook_29 : decode cX0_placeToLook 29 = .ok (.getfield 22, 3) := by decide +kernel
theorem dX0_placeToLook_32 : decode cX0_placeToLook 32 = .ok (.iload_n 1, 1) := by decide +kernel
theorem dX0_placeToLook_33 : decode cX0_placeToLook 33 = .ok (.iaload, 1) := by decide +kernel
theorem dX0_placeToLook_34 : decode cX0_placeToLook 34 = .ok (.invokevirtual 91, 3) := by decide +kernel
theorem dX0_placeToLook_37 : decode cX0_placeToLook 37 = .ok (.iinc 1 1, 3) := by decide +kernel
theorem dX0_placeToLook_40 : decode cX0_placeToLook 40 = .ok (.goto (-21), 3) := by decide +kernel
theorem dX0_placeToLook_43 : decode cX0_placeToLook 43 = .ok (.iconst 0, 1) := by decide +kernel
theorem dX0_placeToLook_44 : decode cX0_placeToLook 44 = .ok (.istore_n 1, 1) := by decide +kernel
theorem dX0_placeToLook_45 : decode cX0_placeToLook 45 = .ok (.iconst 1, 1) := by decide +kernel
theorem dX0_placeToLook_46 : decode cX0_placeToLook 46 = .ok (.istore_n 2, 1) := by decide +kernel
theorem dX0_placeToLook_47 : decode cX0_placeToLook 47 = .ok (.iload_n 2, 1) := by decide +kernel
theorem dX0_placeToLook_48 : decode cX0_placeToLook 48 = .ok (.bipush 10, 2) := by decide +kernel
theorem dX0_placeToLook_50 : decode cX0_placeToLook 50 = .ok (.if_icmp .ge 24, 3) := by decide +kernel
theorem dX0_placeToLook_53 : decode cX0_placeToLook 53 = .ok (.aload_n 0, 1) := by decide +kernel
theorem dX0_placeToLook_54 : decode cX0_placeToLook 54 = .ok (.iload_n 2, 1) := by decide +kernel
theorem dX0_placeToLook_55 : decode cX0_placeToLook 55 = .ok (.invokevirtual 94, 3) := by decide +kernel
theorem dX0_placeToLook_58 : decode cX0_placeToLook 58 = .ok (.aload_n 0, 1) := by decide +kernel
theorem dX0_placeToLook_59 : decode cX0_placeToLook 59 = .ok (.iload_n 1, 1) := by decide +kernel
theorem dX0_placeToLook_60 : decode cX0_placeToLook 60 = .ok (.invokevirtual 94, 3) := by decide +kernel
theorem dX0_placeToLook_63 : decode cX0_placeToLook 63 = .ok (.if_icmp .ge 5, 3) := by decide +kernel
theorem dX0_placeToLook_66 : decode cX0_placeToLook 66 = .ok (.iload_n 2, 1) := by decide +kernel
theorem dX0_placeToLook_67 : decode cX0_placeToLook 67 = .ok (.istore_n 1, 1) := by decide +kernel
theorem dX0_placeToLook_68 : decode cX0_placeToLook 68 = .ok (.iinc 2 1, 3) := by decide +kernel
theorem dX0_placeToLook_71 : decode cX0_placeToLook 71 = .ok (.goto (-24), 3) := by decide +kernel
theorem dX0_placeToLook_74 : decode cX0_placeToLook 74 = .ok (.iload_n 1, 1) := by decide +kernel
theorem dX0_placeToLook_75 : decode cX0_placeToLook 75 = .ok (.ireturn, 1) := by decide +kernel
theorem dX0_countTold_0 : decode cX0_countTold 0 = .ok (.iload_n 1, 1) := by decide +kernel
theorem dX0_countTold_1 : decode cX0_countTold 1 = .ok (.bipush 10, 2) := by decide +kernel
theorem dX0_countTold_3 : decode cX0_countTold 3 = .ok (.idiv, 1) := by decide +kernel
theorem dX0_countTold_4 : decode cX0_countTold 4 = .ok (.istore_n 2, 1) := by decide +kernel
theorem dX0_countTold_5 : decode cX0_countTold 5 = .ok (.aload_n 0, 1) := by decide +kernel
theorem dX0_countTold_6 : decode cX0_countTold 6 = .ok (.getfield 32, 3) := by decide +kernel
theorem dX0_countTold_9 : decode cX0_countTold 9 = .ok (.iload_n 2, 1) := by decide +kernel
theorem dX0_countTold_10 : decode cX0_countTold 10 = .ok (.invokevirtual 62, 3) := by decide +kernel
theorem dX0_countTold_13 : decode cX0_countTold 13 = .ok (.istore_n 3, 1) := by decide +kernel
theorem dX0_countTold_14 : decode cX0_countTold 14 = .ok (.iload_n 1, 1) := by decide +kernel
theorem dX0_countTold_15 : decode cX0_countTold 15 = .ok (.bipush 99, 2) := by decide +kernel
theorem dX0_countTold_17 : decode cX0_countTold 17 = .ok (.if_icmp .eq 7, 3) := by decide +kernel
theorem dX0_countTold_20 : decode cX0_countTold 20 = .ok (.iconst 1, 1) := by decide +kernel
theorem dX0_countTold_21 : decode cX0_countTold 21 = .ok (.goto 4, 3) := by decide +kernel
theorem dX0_countTold_24 : decode cX0_countTold 24 = .ok (.iconst 0, 1) := by decide +kernel
theorem dX0_countTold_25 : decode cX0_countTold 25 = .ok (.istore 4, 2) := by decide +kernel
theorem dX0_countTold_27 : decode cX0_countTold 27 = .ok (.iload 4, 2) := by decide +kernel
theorem dX0_countTold_29 : decode cX0_countTold 29 = .ok (.ifCond .eq 16, 3) := by decide +kernel
theorem dX0_countTold_32 : decode cX0_countTold 32 = .ok (.aload_n 0, 1) := by decide +kernel
theorem dX0_countTold_33 : decode cX0_countTold 33 = .ok (.getfield 36, 3) := by decide +kernel
theorem dX0_countTold_36 : decode cX0_countTold 36 = .ok (.iload_n 2, 1) := by decide +kernel
theorem dX0_countTold_37 : decode cX0_countTold 37 = .ok (.iload_n 3, 1) := by decide +kernel
theorem dX0_countTold_38 : decode cX0_countTold 38 = .ok (.iload_n 1, 1) := by decide +kernel
theorem dX0_countTold_39 : decode cX0_countTold 39 = .ok (.bipush 10, 2) := by decide +kernel
theorem dX0_countTold_41 : decode cX0_countTold 41 = .ok (.irem, 1) := by decide +kernel
theorem dX0_countTold_42 : decode cX0_countTold 42 = .ok (.invokevirtual 70, 3) := by decide +kernel
theorem dX0_countTold_45 : decode cX0_countTold 45 = .ok (.iconst 0, 1) := by decide +kernel
theorem dX0_countTold_46 : decode cX0_countTold 46 = .ok (.istore 5, 2) := by decide +kernel
theorem dX0_countTold_48 : decode cX0_countTold 48 = .ok (.iload 5, 2) := by decide +kernel
theorem dX0_countTold_50 : decode cX0_countTold 50 = .ok (.bipush 10, 2) := by decide +kernel
theorem dX0_countTold_52 : decode cX0_countTold 52 = .ok (.if_icmp .ge 35, 3) := by decide +kernel
theorem dX0_countTold_55 : decode cX0_countTold 55 = .ok (.aload_n 0, 1) := by decide +kernel
theorem dX0_countTold_56 : decode cX0_countTold 56 = .ok (.getfield 25, 3) := by decide +kernel
theorem dX0_countTold_59 : decode cX0_countTold 59 = .ok (.iload 5, 2) := by decide +kernel
theorem dX0_countTold_61 : decode cX0_countTold 61 = .ok (.bipush 7, 2) := by decide +kernel
theorem dX0_countTold_63 : decode cX0_countTold 63 = .ok (.imul, 1) := by decide +kernel
theorem dX0_countTold_64 : decode cX0_countTold 64 = .ok (.aload_n 0, 1) := by decide +kernel
theorem dX0_countTold_65 : decode cX0_countTold 65 = .ok (.getfield 36, 3) := by decide +kernel
theorem dX0_countTold_68 : decode cX0_countTold 68 = .ok (.iload 5, 2) := by decide +kernel
theorem dX0_countTold_70 : decode cX0_countTold 70 = .ok (.invokevirtual 44, 3) := by decide +kernel
theorem dX0_countTold_73 : decode cX0_countTold 73 = .ok (.iadd, 1) := by decide +kernel
theorem dX0_countTold_74 : decode cX0_countTold 74 = .ok (.iconst 1, 1) := by decide +kernel
theorem dX0_countTold_75 : decode cX0_countTold 75 = .ok (.iadd, 1) := by decide +kernel
theorem dX0_countTold_76 : decode cX0_countTold 76 = .ok (.dup2, 1) := by decide +kernel
theorem dX0_countTold_77 : decode cX0_countTold 77 = .ok (.iaload, 1) := by decide +kernel
theorem dX0_countTold_78 : decode cX0_countTold 78 = .ok (.iconst 1, 1) := by decide +kernel
theorem dX0_countTold_79 : decode cX0_countTold 79 = .ok (.iadd, 1) := by decide +kernel
theorem dX0_countTold_80 : decode cX0_countTold 80 = .ok (.iastore, 1) := by decide +kernel
theorem dX0_countTold_81 : decode cX0_countTold 81 = .ok (.iinc 5 1, 3) := by decide +kernel
theorem dX0_countTold_84 : decode cX0_countTold 84 = .ok (.goto (-36), 3) := by decide +kernel
theorem dX0_countTold_87 : decode cX0_countTold 87 = .ok (.iload 4, 2) := by decide +kernel
theorem dX0_countTold_89 : decode cX0_countTold 89 = .ok (.ifCond .eq 16, 3) := by decide +kernel
theorem dX0_countTold_92 : decode cX0_countTold 92 = .ok (.aload_n 0, 1) := by decide +kernel
theorem dX0_countTold_93 : decode cX0_countTold 93 = .ok (.getfield 36, 3) := by decide +kernel
theorem dX0_countTold_96 : decode cX0_countTold 96 = .ok (.iload_n 2, 1) := by decide +kernel
theorem dX0_countTold_97 : decode cX0_countTold 97 = .ok (.iload_n 1, 1) := by decide +kernel
theorem dX0_countTold_98 : decode cX0_countTold 98 = .ok (.bipush 10, 2) := by decide +kernel
theorem dX0_countTold_100 : decode cX0_countTold 100 = .ok (.irem, 1) := by decide +kernel
theorem dX0_countTold_101 : decode cX0_countTold 101 = .ok (.iload_n 3, 1) := by decide +kernel
theorem dX0_countTold_102 : decode cX0_countTold 102 = .ok (.invokevirtual 70, 3) := by decide +kernel
theorem dX0_countTold_105 : decode cX0_countTold 105 = .ok (.return_, 1) := by decide +kernel
theorem dX0_mostTold_0 : decode cX0_mostTold 0 = .ok (.iconst 0, 1) := by decide +kernel
theorem dX0_mostTold_1 : decode cX0_mostTold 1 = .ok (.istore_n 2, 1) := by decide +kernel
theorem dX0_mostTold_2 : decode cX0_mostTold 2 = .ok (.iconst 0, 1) := by decide +kernel
theorem dX0_mostTold_3 : decode cX0_mostTold 3 = .ok (.istore_n 3, 1) := by decide +kernel
theorem dX0_mostTold_4 : decode cX0_mostTold 4 = .ok (.iload_n 3, 1) := by decide +kernel
theorem dX0_mostTold_5 : decode cX0_mostTold 5 = .ok (.bipush 7, 2) := by decide +kernel
theorem dX0_mostTold_7 : decode cX0_mostTold 7 = .ok (.if_icmp .ge 25, 3) := by decide +kernel
theorem dX0_mostTold_10 : decode cX0_mostTold 10 = .ok (.iload_n 2, 1) := by decide +kernel
theorem dX0_mostTold_11 : decode cX0_mostTold 11 = .ok (.aload_n 0, 1) := by decide +kernel
theorem dX0_mostTold_12 : decode cX0_mostTold 12 = .ok (.getfield 25, 3) := by decide +kernel
theorem dX0_mostTold_15 : decode cX0_mostTold 15 = .ok (.iload_n 1, 1) := by decide +kernel
theorem dX0_mostTold_16 : decode cX0_mostTold 16 = .ok (.bipush 7, 2) := by decide +kernel
theorem dX0_mostTold_18 : decode cX0_mostTold 18 = .ok (.imul, 1) := by decide +kernel
theorem dX0_mostTold_19 : decode cX0_mostTold 19 = .ok (.iload_n 3, 1) := by decide +kernel
theorem dX0_mostTold_20 : decode cX0_mostTold 20 = .ok (.iadd, 1) := by decide +kernel
theorem dX0_mostTold_21 : decode cX0_mostTold 21 = .ok (.iaload, 1) := by decide +kernel
theorem dX0_mostTold_22 : decode cX0_mostTold 22 = .ok (.invokestatic 97, 3) := by decide +kernel
theorem dX0_mostTold_25 : decode cX0_mostTold 25 = .ok (.istore_n 2, 1) := by decide +kernel
theorem dX0_mostTold_26 : decode cX0_mostTold 26 = .ok (.iinc 3 1, 3) := by decide +kernel
theorem dX0_mostTold_29 : decode cX0_mostTold 29 = .ok (.goto (-25), 3) := by decide +kernel
theorem dX0_mostTold_32 : decode cX0_mostTold 32 = .ok (.iload_n 2, 1) := by decide +kernel
theorem dX0_mostTold_33 : decode cX0_mostTold 33 = .ok (.ireturn, 1) := by decide +kernel
theorem dX1_init_0 : decode cX1_init 0 = .ok (.aload_n 0, 1) := by decide +kernel
theorem dX1_init_1 : decode cX1_init 1 = .ok (.invokespecial 3, 3) := by decide +kernel
theorem dX1_init_4 : decode cX1_init 4 = .ok (.aload_n 0, 1) := by decide +kernel
theorem dX1_init_5 : decode cX1_init 5 = .ok (.getstatic 9, 3) := by decide +kernel
theorem dX1_init_8 : decode cX1_init 8 = .ok (.arraylength, 1) := by decide +kernel
theorem dX1_init_9 : decode cX1_init 9 = .ok (.newarray .int, 2) := by decide +kernel
theorem dX1_init_11 : decode cX1_init 11 = .ok (.putfield 13, 3) := by decide +kernel
theorem dX1_init_14 : decode cX1_init 14 = .ok (.aload_n 0, 1) := by decide +kernel
theorem dX1_init_15 : decode cX1_init 15 = .ok (.bipush 10, 2) := by decide +kernel
theorem dX1_init_17 : decode cX1_init 17 = .ok (.newarray .int, 2) := by decide +kernel
theorem dX1_init_19 : decode cX1_init 19 = .ok (.putfield 18, 3) := by decide +kernel
theorem dX1_init_22 : decode cX1_init 22 = .ok (.aload_n 0, 1) := by decide +kernel
theorem dX1_init_23 : decode cX1_init 23 = .ok (.bipush 10, 2) := by decide +kernel
theorem dX1_init_25 : decode cX1_init 25 = .ok (.newarray .int, 2) := by decide +kernel
theorem dX1_init_27 : decode cX1_init 27 = .ok (.putfield 21, 3) := by decide +kernel
theorem dX1_init_30 : decode cX1_init 30 = .ok (.aload_n 0, 1) := by decide +kernel
theorem dX1_init_31 : decode cX1_init 31 = .ok (.bipush 10, 2) := by decide +kernel
theorem dX1_init_33 : decode cX1_init 33 = .ok (.newarray .int, 2) := by decide +kernel
theorem dX1_init_35 : decode cX1_init 35 = .ok (.putfield 24, 3) := by decide +kernel
theorem dX1_init_38 : decode cX1_init 38 = .ok (.aload_n 0, 1) := by decide +kernel
theorem dX1_init_39 : decode cX1_init 39 = .ok (.bipush 10, 2) := by decide +kernel
theorem dX1_init_41 : decode cX1_init 41 = .ok (.newarray .int, 2) := by decide +kernel
theorem dX1_init_43 : decode cX1_init 43 = .ok (.putfield 27, 3) := by decide +kernel
theorem dX1_init_46 : decode cX1_init 46 = .ok (.aload_n 0, 1) := by decide +kernel
theorem dX1_init_47 : decode cX1_init 47 = .ok (.aload_n 1, 1) := by decide +kernel
theorem dX1_init_48 : decode cX1_init 48 = .ok (.putfield 30, 3) := by decide +kernel
theorem dX1_init_51 : decode cX1_init 51 = .ok (.aload_n 0, 1) := by decide +kernel
theorem dX1_init_52 : decode cX1_init 52 = .ok (.aload_n 2, 1) := by decide +kernel
theorem dX1_init_53 : decode cX1_init 53 = .ok (.putfield 34, 3) := by decide +kernel
theorem dX1_init_56 : decode cX1_init 56 = .ok (.aload_n 0, 1) := by decide +kernel
theorem dX1_init_57 : decode cX1_init 57 = .ok (.aload_n 3, 1) := by decide +kernel
theorem dX1_init_58 : decode cX1_init 58 = .ok (.putfield 38, 3) := by decide +kernel
theorem dX1_init_61 : decode cX1_init 61 = .ok (.return_, 1) := by decide +kernel
theorem dX1_isPower_0 : decode cX1_isPower 0 = .ok (.iload_n 0, 1) := by decide +kernel
theorem dX1_isPower_1 : decode cX1_isPower 1 = .ok (.iconst 1, 1) := by decide +kernel
theorem dX1_isPower_2 : decode cX1_isPower 2 = .ok (.if_icmp .lt 13, 3) := by decide +kernel
theorem dX1_isPower_5 : decode cX1_isPower 5 = .ok (.iload_n 0, 1) := by decide +kernel
theorem dX1_isPower_6 : decode cX1_isPower 6 = .ok (.bipush 9, 2) := by decide +kernel
theorem dX1_isPower_8 : decode cX1_isPower 8 = .ok (.if_icmp .gt 7, 3) := by decide +kernel
theorem dX1_isPower_11 : decode cX1_isPower 11 = .ok (.iconst 1, 1) := by decide +kernel
theorem dX1_isPower_12 : decode cX1_isPower 12 = .ok (.goto 4, 3) := by decide +kernel
theorem dX1_isPower_15 : decode cX1_isPower 15 = .ok (.iconst 0, 1) := by decide +kernel
theorem dX1_isPower_16 : decode cX1_isPower 16 = .ok (.ireturn, 1) := by decide +kernel
theorem dX1_refusalOf_0 : decode cX1_refusalOf 0 = .ok (.aload_n 0, 1) := by decide +kernel
theorem dX1_refusalOf_1 : decode cX1_refusalOf 1 = .ok (.getfield 30, 3) := by decide +kernel
theorem dX1_refusalOf_4 : decode cX1_refusalOf 4 = .ok (.iload_n 1, 1) := by decide +kernel
theorem dX1_refusalOf_5 : decode cX1_refusalOf 5 = .ok (.invokevirtual 42, 3) := by decide +kernel
theorem dX1_refusalOf_8 : decode cX1_refusalOf 8 = .ok (.ifCond .eq 14, 3) := by decide +kernel
theorem dX1_refusalOf_11 : decode cX1_refusalOf 11 = .ok (.aload_n 0, 1) := by decide +kernel
theorem dX1_refusalOf_12 : decode cX1_refusalOf 12 = .ok (.getfield 30, 3) := by decide +kernel
theorem dX1_refusalOf_15 : decode cX1_refusalOf 15 = .ok (.iload_n 3, 1) := by decide +kernel
theorem dX1_refusalOf_16 : decode cX1_refusalOf 16 = .ok (.invokevirtual 42, 3) := by decide +kernel
theorem dX1_refusalOf_19 : decode cX1_refusalOf 19 = .ok (.ifCond .ne 5, 3) := by decide +kernel
theorem dX1_refusalOf_22 : decode cX1_refusalOf 22 = .ok (.iconst 0, 1) := by decide +kernel
theorem dX1_refusalOf_23 : decode cX1_refusalOf 23 = .ok (.ireturn, 1) := by decide +kernel
theorem dX1_refusalOf_24 : decode cX1_refusalOf 24 = .ok (.iload_n 1, 1) := by decide +kernel
theorem dX1_refusalOf_25 : decode cX1_refusalOf 25 = .ok (.iload_n 3, 1) := by decide +kernel
theorem dX1_refusalOf_26 : decode cX1_refusalOf 26 = .ok (.if_icmp .eq 18, 3) := by decide +kernel
theorem dX1_refusalOf_29 : decode cX1_refusalOf 29 = .ok (.iload_n 2, 1) := by decide +kernel
theorem dX1_refusalOf_30 : decode cX1_refusalOf 30 = .ok (.invokestatic 48, 3) := by decide +kernel
theorem dX1_refusalOf_33 : decode cX1_refusalOf 33 = .ok (.ifCond .eq 11, 3) := by decide +kernel
theorem dX1_refusalOf_36 : decode cX1_refusalOf 36 = .ok (.iload 4, 2) := by decide +kernel
theorem dX1_refusalOf_38 : decode cX1_refusalOf 38 = .ok (.invokestatic 48, 3) := by decide +kernel
theorem dX1_refusalOf_41 : decode cX1_refusalOf 41 = .ok (.ifCond .ne 5, 3) := by decide +kernel
theorem dX1_refusalOf_44 : decode cX1_refusalOf 44 = .ok (.iconst 1, 1) := by decide +kernel
theorem dX1_refusalOf_45 : decode cX1_refusalOf 45 = .ok (.ireturn, 1) := by decide +kernel
theorem dX1_refusalOf_46 : decode cX1_refusalOf 46 = .ok (.aload_n 0, 1) := by decide +kernel
theorem dX1_refusalOf_47 : decode cX1_refusalOf 47 = .ok (.getfield 34, 3) := by decide +kernel
theorem dX1_refusalOf_50 : decode cX1_refusalOf 50 = .ok (.iload_n 1, 1) := by decide +kernel
theorem dX1_refusalOf_51 : decode cX1_refusalOf 51 = .ok (.invokevirtual 51, 3) := by decide +kernel
theorem dX1_refusalOf_54 : decode cX1_refusalOf 54 = .ok (.ifCond .eq 37, 3) := by decide +kernel
theorem dX1_refusalOf_57 : decode cX1_refusalOf 57 = .ok (.aload_n 0, 1) := by decide +kernel
theorem dX1_refusalOf_58 : decode cX1_refusalOf 58 = .ok (.getfield 34, 3) := by decide +kernel
theorem dX1_refusalOf_61 : decode cX1_refusalOf 61 = .ok (.iload_n 3, 1) := by decide +kernel
theorem dX1_refusalOf_62 : decode cX1_refusalOf 62 = .ok (.invokevirtual 51, 3) := by decide +kernel
theorem dX1_refusalOf_65 : decode cX1_refusalOf 65 = .ok (.ifCond .eq 26, 3) := by decide +kernel
theorem dX1_refusalOf_68 : decode cX1_refusalOf 68 = .ok (.aload_n 0, 1) := by decide +kernel
theorem dX1_refusalOf_69 : decode cX1_refusalOf 69 = .ok (.getfield 34, 3) := by decide +kernel
theorem dX1_refusalOf_72 : decode cX1_refusalOf 72 = .ok (.iload_n 1, 1) := by decide +kernel
theorem dX1_refusalOf_73 : decode cX1_refusalOf 73 = .ok (.invokevirtual 56, 3) := by decide +kernel
theorem dX1_refusalOf_76 : decode cX1_refusalOf 76 = .ok (.aload_n 0, 1) := by decide +kernel
theorem dX1_refusalOf_77 : decode cX1_refusalOf 77 = .ok (.getfield 34, 3) := by decide +kernel
theorem dX1_refusalOf_80 : decode cX1_refusalOf 80 = .ok (.iload_n 3, 1) := by decide +kernel
theorem dX1_refusalOf_81 : decode cX1_refusalOf 81 = .ok (.invokevirtual 56, 3) := by decide +kernel
theorem dX1_refusalOf_84 : decode cX1_refusalOf 84 = .ok (.if_icmp .eq 7, 3) := by decide +kernel
theorem dX1_refusalOf_87 : decode cX1_refusalOf 87 = .ok (.iconst 1, 1) := by decide +kernel
theorem dX1_refusalOf_88 : decode cX1_refusalOf 88 = .ok (.goto 4, 3) := by decide +kernel
theorem dX1_refusalOf_91 : decode cX1_refusalOf 91 = .ok (.iconst 0, 1) := by decide +kernel
theorem dX1_refusalOf_92 : decode cX1_refusalOf 92 = .ok (.istore 5, 2) := by decide +kernel
theorem dX1_refusalOf_94 : decode cX1_refusalOf 94 = .ok (.iload 5, 2) := by decide +kernel
theorem dX1_refusalOf_96 : decode cX1_refusalOf 96 = .ok (.ifCond .eq 7, 3) := by decide +kernel
theorem dX1_refusalOf_99 : decode cX1_refusalOf 99 = .ok (.iconst (-1), 1) := by decide +kernel
theorem dX1_refusalOf_100 : decode cX1_refusalOf 100 = .ok (.goto 4, 3) := by decide +kernel
theorem dX1_refusalOf_103 : decode cX1_refusalOf 103 = .ok (.iconst 2, 1) := by decide +kernel
theorem dX1_refusalOf_104 : decode cX1_refusalOf 104 = .ok (.ireturn, 1) := by decide +kernel
theorem dX1_flick_0 : decode cX1_flick 0 = .ok (.iconst 2, 1) := by decide +kernel
theorem dX1_flick_1 : decode cX1_flick 1 = .ok (.iload_n 3, 1) := by decide +kernel
theorem dX1_flick_2 : decode cX1_flick 2 = .ok (.imul, 1) := by decide +kernel
theorem dX1_flick_3 : decode cX1_flick 3 = .ok (.aload_n 0, 1) := by decide +kernel
theorem dX1_flick_4 : decode cX1_flick 4 = .ok (.getfield 30, 3) := by decide +kernel
theorem dX1_flick_7 : decode cX1_flick 7 = .ok (.iload_n 1, 1) := by decide +kernel
theorem dX1_flick_8 : decode cX1_flick 8 = .ok (.invokevirtual 60, 3) := by decide +kernel
theorem dX1_flick_11 : decode cX1_flick 11 = .ok (.iconst 2, 1) := by decide +kernel
theorem dX1_flick_12 : decode cX1_flick 12 = .ok (.idiv, 1) := by decide +kernel
theorem dX1_flick_13 : decode cX1_flick 13 = .ok (.iadd, 1) := by decide +kernel
theorem dX1_flick_14 : decode cX1_flick 14 = .ok (.aload_n 0, 1) := by decide +kernel
theorem dX1_flick_15 : decode cX1_flick 15 = .ok (.getfield 30, 3) := by decide +kernel
theorem dX1_flick_18 : decode cX1_flick 18 = .ok (.iload_n 2, 1) := by decide +kernel
theorem dX1_flick_19 : decode cX1_flick 19 = .ok (.invokevirtual 63, 3) := by decide +kernel
theorem dX1_flick_22 : decode cX1_flick 22 = .ok (.iconst 3, 1) := by decide +kernel
theorem dX1_flick_23 : decode cX1_flick 23 = .ok (.idiv, 1) := by decide +kernel
theorem dX1_flick_24 : decode cX1_flick 24 = .ok (.isub, 1) := by decide +kernel
theorem dX1_flick_25 : decode cX1_flick 25 = .ok (.istore 4, 2) := by decide +kernel
theorem dX1_flick_27 : decode cX1_flick 27 = .ok (.aload_n 0, 1) := by decide +kernel
theorem dX1_flick_28 : decode cX1_flick 28 = .ok (.getfield 38, 3) := by decide +kernel
theorem dX1_flick_31 : decode cX1_flick 31 = .ok (.invokevirtual 66, 3) := by decide +kernel
theorem dX1_flick_34 : decode cX1_flick 34 = .ok (.ifCond .eq 103, 3) := by decide +kernel
theorem dX1_flick_37 : decode cX1_flick 37 = .ok (.aload_n 0, 1) := by decide +kernel
theorem dX1_flick_38 : decode cX1_flick 38 = .ok (.getfield 13, 3) := by decide +kernel
theorem dX1_flick_41 : decode cX1_flick 41 = .ok (.iconst 0, 1) := by decide +kernel
theorem dX1_flick_42 : decode cX1_flick 42 = .ok (.iload_n 3, 1) := by decide +kernel
theorem dX1_flick_43 : decode cX1_flick 43 = .ok (.iastore, 1) := by decide +kernel
theorem dX1_flick_44 : decode cX1_flick 44 = .ok (.aload_n 0, 1) := by decide +kernel
theorem dX1_flick_45 : decode cX1_flick 45 = .ok (.getfield 13, 3) := by decide +kernel
theorem dX1_flick_48 : decode cX1_flick 48 = .ok (.iconst 1, 1) := by decide +kernel
theorem dX1_flick_49 : decode cX1_flick 49 = .ok (.aload_n 0, 1) := by decide +kernel
theorem dX1_flick_50 : decode cX1_flick 50 = .ok (.getfield 30, 3) := by decide +kernel
theorem dX1_flick_53 : decode cX1_flick 53 = .ok (.iload_n 1, 1) := by decide +kernel
theorem dX1_flick_54 : decode cX1_flick 54 = .ok (.invokevirtual 60, 3) := by decide +kernel
theorem dX1_flick_57 : decode cX1_flick 57 = .ok (.iastore, 1) := by decide +kernel
theorem dX1_flick_58 : decode cX1_flick 58 = .ok (.aload_n 0, 1) := by decide +kernel
theorem dX1_flick_59 : decode cX1_flick 59 = .ok (.getfield 13, 3) := by decide +kernel
theorem dX1_flick_62 : decode cX1_flick 62 = .ok (.iconst 2, 1) := by decide +kernel
theorem dX1_flick_63 : decode cX1_flick 63 = .ok (.aload_n 0, 1) := by decide +kernel
theorem dX1_flick_64 : decode cX1_flick 64 = .ok (.getfield 30, 3) := by decide +kernel
theorem dX1_flick_67 : decode cX1_flick 67 = .ok (.iload_n 2, 1) := by decide +kernel
theorem dX1_flick_68 : decode cX1_flick 68 = .ok (.invokevirtual 63, 3) := by decide +kernel
theorem dX1_flick_71 : decode cX1_flick 71 = .ok (.iastore, 1) := by decide +kernel
theorem dX1_flick_72 : decode cX1_flick 72 = .ok (.aload_n 0, 1) := by decide +kernel
theorem dX1_flick_73 : decode cX1_flick 73 = .ok (.getfield 13, 3) := by decide +kernel
theorem dX1_flick_76 : decode cX1_flick 76 = .ok (.iconst 3, 1) := by decide +kernel
theorem dX1_flick_77 : decode cX1_flick 77 = .ok (.aload_n 0, 1) := by decide +kernel
theorem dX1_flick_78 : decode cX1_flick 78 = .ok (.getfield 34, 3) := by decide +kernel
theorem dX1_flick_81 : decode cX1_flick 81 = .ok (.iload_n 2, 1) := by decide +kernel
theorem dX1_flick_82 : decode cX1_flick 82 = .ok (.invokevirtual 72, 3) := by decide +kernel
theorem dX1_flick_85 : decode cX1_flick 85 = .ok (.ifCond .eq 7, 3) := by decide +kernel
theorem dX1_flick_88 : decode cX1_flick 88 = .ok (.iconst 1, 1) := by decide +kernel
theorem dX1_flick_89 : decode cX1_flick 89 = .ok (.goto 4, 3) := by decide +kernel
theorem dX1_flick_92 : decode cX1_flick 92 = .ok (.iconst 0, 1) := by decide +kernel
theorem dX1_flick_93 : decode cX1_flick 93 = .ok (.iastore, 1) := by decide +kernel
theorem dX1_flick_94 : decode cX1_flick 94 = .ok (.aload_n 0, 1) := by decide +kernel
theorem dX1_flick_95 : decode cX1_flick 95 = .ok (.getfield 13, 3) := by decide +kernel
theorem dX1_flick_98 : decode cX1_flick 98 = .ok (.iconst 4, 1) := by decide +kernel
theorem dX1_flick_99 : decode cX1_flick 99 = .ok (.aload_n 0, 1) := by decide +kernel
theorem dX1_flick_100 : decode cX1_flick 100 = .ok (.getfield 34, 3) := by decide +kernel
theorem dX1_flick_103 : decode cX1_flick 103 = .ok (.iload_n 1, 1) := by decide +kernel
theorem dX1_flick_104 : decode cX1_flick 104 = .ok (.invokevirtual 75, 3) := by decide +kernel
theorem dX1_flick_107 : decode cX1_flick 107 = .ok (.invokestatic 78, 3) := by decide +kernel
theorem dX1_flick_110 : decode cX1_flick 110 = .ok (.iastore, 1) := by decide +kernel
theorem dX1_flick_111 : decode cX1_flick 111 = .ok (.aload_n 0, 1) := by decide +kernel
theorem dX1_flick_112 : decode cX1_flick 112 = .ok (.getfield 13, 3) := by decide +kernel
theorem dX1_flick_115 : decode cX1_flick 115 = .ok (.iconst 5, 1) := by decide +kernel
theorem dX1_flick_116 : decode cX1_flick 116 = .ok (.aload_n 0, 1) := by decide +kernel
theorem dX1_flick_117 : decode cX1_flick 117 = .ok (.getfield 34, 3) := by decide +kernel
theorem dX1_flick_120 : decode cX1_flick 120 = .ok (.getfield 83, 3) := by decide +kernel
theorem dX1_flick_123 : decode cX1_flick 123 = .ok (.iastore, 1) := by decide +kernel
theorem dX1_flick_124 : decode cX1_flick 124 = .ok (.aload_n 0, 1) := by decide +kernel
theorem dX1_flick_125 : decode cX1_flick 125 = .ok (.getfield 38, 3) := by decide +kernel
theorem dX1_flick_128 : decode cX1_flick 128 = .ok (.aload_n 0, 1) := by decide +kernel
theorem dX1_flick_129 : decode cX1_flick 129 = .ok (.getfield 13, 3) := by decide +kernel
theorem dX1_flick_132 : decode cX1_flick 132 = .ok (.invokevirtual 87, 3) := by decide +kernel
theorem dX1_flick_135 : decode cX1_flick 135 = .ok (.istore 4, 2) := by decide +kernel
theorem dX1_flick_137 : decode cX1_flick 137 = .ok (.iconst 0, 1) := by decide +kernel
theorem dX1_flick_138 : decode cX1_flick 138 = .ok (.bipush 60, 2) := by decide +kernel
theorem dX1_flick_140 : decode cX1_flick 140 = .ok (.iload 4, 2) := by decide +kernel
theorem dX1_flick_142 : decode cX1_flick 142 = .ok (.invokestatic 91, 3) := by decide +kernel
theorem dX1_flick_145 : decode cX1_flick 145 = .ok (.invokestatic 97, 3) := by decide +kernel
theorem dX1_flick_148 : decode cX1_flick 148 = .ok (.ireturn, 1) := by decide +kernel
theorem dX1_isDrain_0 : decode cX1_isDrain 0 = .ok (.iload_n 1, 1) := by decide +kernel
theorem dX1_isDrain_1 : decode cX1_isDrain 1 = .ok (.aload_n 0, 1) := by decide +kernel
theorem dX1_isDrain_2 : decode cX1_isDrain 2 = .ok (.getfield 30, 3) := by decide +kernel
theorem dX1_isDrain_5 : decode cX1_isDrain 5 = .ok (.invokevirtual 100, 3) := by decide +kernel
theorem dX1_isDrain_8 : decode cX1_isDrain 8 = .ok (.aload_n 0, 1) := by decide +kernel
theorem dX1_isDrain_9 : decode cX1_isDrain 9 = .ok (.getfield 30, 3) := by decide +kernel
theorem dX1_isDrain_12 : decode cX1_isDrain 12 = .ok (.invokevirtual 104, 3) := by decide +kernel
theorem dX1_isDrain_15 : decode cX1_isDrain 15 = .ok (.iadd, 1) := by decide +kernel
theorem dX1_isDrain_16 : decode cX1_isDrain 16 = .ok (.if_icmp .lt 7, 3) := by decide +kernel
theorem dX1_isDrain_19 : decode cX1_isDrain 19 = .ok (.iconst 1, 1) := by decide +kernel
theorem dX1_isDrain_20 : decode cX1_isDrain 20 = .ok (.goto 4, 3) := by decide +kernel
theorem dX1_isDrain_23 : decode cX1_isDrain 23 = .ok (.iconst 0, 1) := by decide +kernel
theorem dX1_isDrain_24 : decode cX1_isDrain 24 = .ok (.ireturn, 1) := by decide +kernel
theorem dX1_distance_0 : decode cX1_distance 0 = .ok (.iload_n 1, 1) := by decide +kernel
theorem dX1_distance_1 : decode cX1_distance 1 = .ok (.aload_n 0, 1) := by decide +kernel
theorem dX1_distance_2 : decode cX1_distance 2 = .ok (.getfield 30, 3) := by decide +kernel
theorem dX1_distance_5 : decode cX1_distance 5 = .ok (.invokevirtual 100, 3) := by decide +kernel
theorem dX1_distance_8 : decode cX1_distance 8 = .ok (.isub, 1) := by decide +kernel
theorem dX1_distance_9 : decode cX1_distance 9 = .ok (.invokestatic 107, 3) := by decide +kernel
theorem dX1_distance_12 : decode cX1_distance 12 = .ok (.ireturn, 1) := by decide +kernel
theorem dX1_nearerOf_0 : decode cX1_nearerOf 0 = .ok (.aload_n 0, 1) := by decide +kernel
theorem dX1_nearerOf_1 : decode cX1_nearerOf 1 = .ok (.iload_n 1, 1) := by decide +kernel
theorem dX1_nearerOf_2 : decode cX1_nearerOf 2 = .ok (.invokevirtual 110, 3) := by decide +kernel
theorem dX1_nearerOf_5 : decode cX1_nearerOf 5 = .ok (.ifCond .ne 24, 3) := by decide +kernel
theorem dX1_nearerOf_8 : decode cX1_nearerOf 8 = .ok (.aload_n 0, 1) := by decide +kernel
theorem dX1_nearerOf_9 : decode cX1_nearerOf 9 = .ok (.iload_n 2, 1) := by decide +kernel
theorem dX1_nearerOf_10 : decode cX1_nearerOf 10 = .ok (.invokevirtual 110, 3) := by decide +kernel
theorem dX1_nearerOf_13 : decode cX1_nearerOf 13 = .ok (.ifCond .ne 16, 3) := by decide +kernel
theorem dX1_nearerOf_16 : decode cX1_nearerOf 16 = .ok (.aload_n 0, 1) := by decide +kernel
theorem dX1_nearerOf_17 : decode cX1_nearerOf 17 = .ok (.iload_n 1, 1) := by decide +kernel
theorem dX1_nearerOf_18 : decode cX1_nearerOf 18 = .ok (.invokevirtual 113, 3) := by decide +kernel
theorem dX1_nearerOf_21 : decode cX1_nearerOf 21 = .ok (.aload_n 0, 1) := by decide +kernel
theorem dX1_nearerOf_22 : decode cX1_nearerOf 22 = .ok (.iload_n 2, 1) := by decide +kernel
theorem dX1_nearerOf_23 : decode cX1_nearerOf 23 = .ok (.invokevirtual 113, 3) := by decide +kernel
theorem dX1_nearerOf_26 : decode cX1_nearerOf 26 = .ok (.if_icmp .ne 5, 3) := by decide +kernel
theorem dX1_nearerOf_29 : decode cX1_nearerOf 29 = .ok (.iconst 0, 1) := by decide +kernel
theorem dX1_nearerOf_30 : decode cX1_nearerOf 30 = .ok (.ireturn, 1) := by decide +kernel
theorem dX1_nearerOf_31 : decode cX1_nearerOf 31 = .ok (.aload_n 0, 1) := by decide +kernel
theorem dX1_nearerOf_32 : decode cX1_nearerOf 32 = .ok (.iload_n 1, 1) := by decide +kernel
theorem dX1_nearerOf_33 : decode cX1_nearerOf 33 = .ok (.invokevirtual 113, 3) := by decide +kernel
theorem dX1_nearerOf_36 : decode cX1_nearerOf 36 = .ok (.aload_n 0, 1) := by decide +kernel
theorem dX1_nearerOf_37 : decode cX1_nearerOf 37 = .ok (.iload_n 2, 1) := by decide +kernel
theorem dX1_nearerOf_38 : decode cX1_nearerOf 38 = .ok (.invokevirtual 113, 3) := by decide +kernel
theorem dX1_nearerOf_41 : decode cX1_nearerOf 41 = .ok (.if_icmp .ge 7, 3) := by decide +kernel
theorem dX1_nearerOf_44 : decode cX1_nearerOf 44 = .ok (.iconst 1, 1) := by decide +kernel
theorem dX1_nearerOf_45 : decode cX1_nearerOf 45 = .ok (.goto 4, 3) := by decide +kernel
theorem dX1_nearerOf_48 : decode cX1_nearerOf 48 = .ok (.iconst 2, 1) := by decide +kernel
theorem dX1_nearerOf_49 : decode cX1_nearerOf 49 = .ok (.ireturn, 1) := by decide +kernel
theorem dX1_winnerOf_0 : decode cX1_winnerOf 0 = .ok (.aload_n 0, 1) := by decide +kernel
theorem dX1_winnerOf_1 : decode cX1_winnerOf 1 = .ok (.aload_n 0, 1) := by decide +kernel
theorem dX1_winnerOf_2 : decode cX1_winnerOf 2 = .ok (.aload_n 0, 1) := by decide +kernel
theorem dX1_winnerOf_3 : decode cX1_winnerOf 3 = .ok (.getfield 34, 3) := by decide +kernel
theorem dX1_winnerOf_6 : decode cX1_winnerOf 6 = .ok (.iload_n 1, 1) := by decide +kernel
theorem dX1_winnerOf_7 : decode cX1_winnerOf 7 = .ok (.invokevirtual 56, 3) := by decide +kernel
theorem dX1_winnerOf_10 : decode cX1_winnerOf 10 = .ok (.iload_n 1, 1) := by decide +kernel
theorem dX1_winnerOf_11 : decode cX1_winnerOf 11 = .ok (.iload_n 2, 1) := by decide +kernel
theorem dX1_winnerOf_12 : decode cX1_winnerOf 12 = .ok (.invokevirtual 116, 3) := by decide +kernel
theorem dX1_winnerOf_15 : decode cX1_winnerOf 15 = .ok (.aload_n 0, 1) := by decide +kernel
theorem dX1_winnerOf_16 : decode cX1_winnerOf 16 = .ok (.aload_n 0, 1) := by decide +kernel
theorem dX1_winnerOf_17 : decode cX1_winnerOf 17 = .ok (.getfield 34, 3) := by decide +kernel
theorem dX1_winnerOf_20 : decode cX1_winnerOf 20 = .ok (.iload_n 3, 1) := by decide +kernel
theorem dX1_winnerOf_21 : decode cX1_winnerOf 21 = .ok (.invokevirtual 56, 3) := by decide +kernel
theorem dX1_winnerOf_24 : decode cX1_winnerOf 24 = .ok (.iload_n 3, 1) := by decide +kernel
theorem dX1_winnerOf_25 : decode cX1_winnerOf 25 = .ok (.iload 4, 2) := by decide +kernel
theorem dX1_winnerOf_27 : decode cX1_winnerOf 27 = .ok (.invokevirtual 116, 3) := by decide +kernel
theorem dX1_winnerOf_30 : decode cX1_winnerOf 30 = .ok (.invokevirtual 120, 3) := by decide +kernel
theorem dX1_winnerOf_33 : decode cX1_winnerOf 33 = .ok (.ireturn, 1) := by decide +kernel
theorem dX1_carryOut_0 : decode cX1_carryOut 0 = .ok (.aload_n 0, 1) := by decide +kernel
theorem dX1_carryOut_1 : decode cX1_carryOut 1 = .ok (.getfield 34, 3) := by decide +kernel
theorem dX1_carryOut_4 : decode cX1_carryOut 4 = .ok (.iload_n 1, 1) := by decide +kernel
theorem dX1_carryOut_5 : decode cX1_carryOut 5 = .ok (.invokevirtual 56, 3) := by decide +kernel
theorem dX1_carryOut_8 : decode cX1_carryOut 8 = .ok (.istore 5, 2) := by decide +kernel
theorem dX1_carryOut_10 : decode cX1_carryOut 10 = .ok (.aload_n 0, 1) := by decide +kernel
theorem dX1_carryOut_11 : decode cX1_carryOut 11 = .ok (.getfield 34, 3) := by decide +kernel
theorem dX1_carryOut_14 : decode cX1_carryOut 14 = .ok (.iload_n 3, 1) := by decide +kernel
theorem dX1_carryOut_15 : decode cX1_carryOut 15 = .ok (.invokevirtual 56, 3) := by decide +kernel
theorem dX1_carryOut_18 : decode cX1_carryOut 18 = .ok (.istore 6, 2) := by decide +kernel
theorem dX1_carryOut_20 : decode cX1_carryOut 20 = .ok (.aload_n 0, 1) := by decide +kernel
theorem dX1_carryOut_21 : decode cX1_carryOut 21 = .ok (.iload 5, 2) := by decide +kernel
theorem dX1_carryOut_23 : decode cX1_carryOut 23 = .ok (.iload_n 1, 1) := by decide +kernel
theorem dX1_carryOut_24 : decode cX1_carryOut 24 = .ok (.iload_n 2, 1) := by decide +kernel
theorem dX1_carryOut_25 : decode cX1_carryOut 25 = .ok (.invokevirtual 116, 3) := by decide +kernel
theorem dX1_carryOut_28 : decode cX1_carryOut 28 = .ok (.istore 7, 2) := by decide +kernel
theorem dX1_carryOut_30 : decode cX1_carryOut 30 = .ok (.aload_n 0, 1) := by decide +kernel
theorem dX1_carryOut_31 : decode cX1_carryOut 31 = .ok (.iload 6, 2) := by decide +kernel
theorem dX1_carryOut_33 : decode cX1_carryOut 33 = .ok (.iload_n 3, 1) := by decide +kernel
theorem dX1_carryOut_34 : decode cX1_carryOut 34 = .ok (.iload 4, 2) := by decide +kernel
theorem dX1_carryOut_36 : decode cX1_carryOut 36 = .ok (.invokevirtual 116, 3) := by decide +kernel
theorem dX1_carryOut_39 : decode cX1_carryOut 39 = .ok (.istore 8, 2) := by decide +kernel
theorem dX1_carryOut_41 : decode cX1_carryOut 41 = .ok (.aload_n 0, 1) := by decide +kernel
theorem dX1_carryOut_42 : decode cX1_carryOut 42 = .ok (.iload 7, 2) := by decide +kernel
theorem dX1_carryOut_44 : decode cX1_carryOut 44 = .ok (.iload 8, 2) := by decide +kernel
theorem dX1_carryOut_46 : decode cX1_carryOut 46 = .ok (.invokevirtual 120, 3) := by decide +kernel
theorem dX1_carryOut_49 : decode cX1_carryOut 49 = .ok (.istore 9, 2) := by decide +kernel
theorem dX1_carryOut_51 : decode cX1_carryOut 51 = .ok (.aload_n 0, 1) := by decide +kernel
theorem dX1_carryOut_52 : decode cX1_carryOut 52 = .ok (.iload 7, 2) := by decide +kernel
theorem dX1_carryOut_54 : decode cX1_carryOut 54 = .ok (.invokevirtual 110, 3) := by decide +kernel
theorem dX1_carryOut_57 : decode cX1_carryOut 57 = .ok (.ifCond .eq 12, 3) := by decide +kernel
theorem dX1_carryOut_60 : decode cX1_carryOut 60 = .ok (.aload_n 0, 1) := by decide +kernel
theorem dX1_carryOut_61 : decode cX1_carryOut 61 = .ok (.getfield 34, 3) := by decide +kernel
theorem dX1_carryOut_64 : decode cX1_carryOut 64 = .ok (.iload_n 1, 1) := by decide +kernel
theorem dX1_carryOut_65 : decode cX1_carryOut 65 = .ok (.iconst (-1), 1) := by decide +kernel
theorem dX1_carryOut_66 : decode cX1_carryOut 66 = .ok (.invokevirtual 123, 3) := by decide +kernel
theorem dX1_carryOut_69 : decode cX1_carryOut 69 = .ok (.aload_n 0, 1) := by decide +kernel
theorem dX1_carryOut_70 : decode cX1_carryOut 70 = .ok (.iload 8, 2) := by decide +kernel
theorem dX1_carryOut_72 : decode cX1_carryOut 72 = .ok (.invokevirtual 110, 3) := by decide +kernel
theorem dX1_carryOut_75 : decode cX1_carryOut 75 = .ok (.ifCond .eq 12, 3) := by decide +kernel
theorem dX1_carryOut_78 : decode cX1_carryOut 78 = .ok (.aload_n 0, 1) := by decide +kernel
theorem dX1_carryOut_79 : decode cX1_carryOut 79 = .ok (.getfield 34, 3) := by decide +kernel
theorem dX1_carryOut_82 : decode cX1_carryOut 82 = .ok (.iload_n 3, 1) := by decide +kernel
theorem dX1_carryOut_83 : decode cX1_carryOut 83 = .ok (.iconst (-1), 1) := by decide +kernel
theorem dX1_carryOut_84 : decode cX1_carryOut 84 = .ok (.invokevirtual 123, 3) := by decide +kernel
theorem dX1_carryOut_87 : decode cX1_carryOut 87 = .ok (.iload 9, 2) := by decide +kernel
theorem dX1_carryOut_89 : decode cX1_carryOut 89 = .ok (.iconst 1, 1) := by decide +kernel
theorem dX1_carryOut_90 : decode cX1_carryOut 90 = .ok (.if_icmp .ne 16, 3) := by decide +kernel
theorem dX1_carryOut_93 : decode cX1_carryOut 93 = .ok (.aload_n 0, 1) := by decide +kernel
theorem dX1_carryOut_94 : decode cX1_carryOut 94 = .ok (.getfield 34, 3) := by decide +kernel
theorem dX1_carryOut_97 : decode cX1_carryOut 97 = .ok (.iload_n 3, 1) := by decide +kernel
theorem dX1_carryOut_98 : decode cX1_carryOut 98 = .ok (.iload 5, 2) := by decide +kernel
theorem dX1_carryOut_100 : decode cX1_carryOut 100 = .ok (.invokevirtual 123, 3) := by decide +kernel
theorem dX1_carryOut_103 : decode cX1_carryOut 103 = .ok (.goto 19, 3) := by decide +kernel
theorem dX1_carryOut_106 : decode cX1_carryOut 106 = .ok (.iload 9, 2) := by decide +kernel
theorem dX1_carryOut_108 : decode cX1_carryOut 108 = .ok (.iconst 2, 1) := by decide +kernel
theorem dX1_carryOut_109 : decode cX1_carryOut 109 = .ok (.if_icmp .ne 13, 3) := by decide +kernel
theorem dX1_carryOut_112 : decode cX1_carryOut 112 = .ok (.aload_n 0, 1) := by decide +kernel
theorem dX1_carryOut_113 : decode cX1_carryOut 113 = .ok (.getfield 34, 3) := by decide +kernel
theorem dX1_carryOut_116 : decode cX1_carryOut 116 = .ok (.iload_n 1, 1) := by decide +kernel
theorem dX1_carryOut_117 : decode cX1_carryOut 117 = .ok (.iload 6, 2) := by decide +kernel
theorem dX1_carryOut_119 : decode cX1_carryOut 119 = .ok (.invokevirtual 123, 3) := by decide +kernel
theorem dX1_carryOut_122 : decode cX1_carryOut 122 = .ok (.iload 9, 2) := by decide +kernel
theorem dX1_carryOut_124 : decode cX1_carryOut 124 = .ok (.ireturn, 1) := by decide +kernel
theorem dX1_nearestPower_0 : decode cX1_nearestPower 0 = .ok (.iconst (-1), 1) := by decide +kernel
theorem dX1_nearestPower_1 : decode cX1_nearestPower 1 = .ok (.istore_n 3, 1) := by decide +kernel
theorem dX1_nearestPower_2 : decode cX1_nearestPower 2 = .ok (.iconst 0, 1) := by decide +kernel
theorem dX1_nearestPower_3 : decode cX1_nearestPower 3 = .ok (.istore 4, 2) := by decide +kernel
theorem dX1_nearestPower_5 : decode cX1_nearestPower 5 = .ok (.iconst 1, 1) := by decide +kernel
theorem dX1_nearestPower_6 : decode cX1_nearestPower 6 = .ok (.istore 5, 2) := by decide +kernel
theorem dX1_nearestPower_8 : decode cX1_nearestPower 8 = .ok (.iload 5, 2) := by decide +kernel
theorem dX1_nearestPower_10 : decode cX1_nearestPower 10 = .ok (.bipush 9, 2) := by decide +kernel
theorem dX1_nearestPower_12 : decode cX1_nearestPower 12 = .ok (.if_icmp .gt 55, 3) := by decide +kernel
theorem dX1_nearestPower_15 : decode cX1_nearestPower 15 = .ok (.aload_n 0, 1) := by decide +kernel
theorem dX1_nearestPower_16 : decode cX1_nearestPower 16 = .ok (.iload_n 1, 1) := by decide +kernel
theorem dX1_nearestPower_17 : decode cX1_nearestPower 17 = .ok (.iload_n 2, 1) := by decide +kernel
theorem dX1_nearestPower_18 : decode cX1_nearestPower 18 = .ok (.iload 5, 2) := by decide +kernel
theorem dX1_nearestPower_20 : decode cX1_nearestPower 20 = .ok (.invokevirtual 116, 3) := by decide +kernel
theorem dX1_nearestPower_23 : decode cX1_nearestPower 23 = .ok (.istore 6, 2) := by decide +kernel
theorem dX1_nearestPower_25 : decode cX1_nearestPower 25 = .ok (.aload_n 0, 1) := by decide +kernel
theorem dX1_nearestPower_26 : decode cX1_nearestPower 26 = .ok (.iload 6, 2) := by decide +kernel
theorem dX1_nearestPower_28 : decode cX1_nearestPower 28 = .ok (.invokevirtual 110, 3) := by decide +kernel
theorem dX1_nearestPower_31 : decode cX1_nearestPower 31 = .ok (.ifCond .ne 30, 3) := by decide +kernel
theorem dX1_nearestPower_34 : decode cX1_nearestPower 34 = .ok (.iload_n 3, 1) := by decide +kernel
theorem dX1_nearestPower_35 : decode cX1_nearestPower 35 = .ok (.iconst (-1), 1) := by decide +kernel
theorem dX1_nearestPower_36 : decode cX1_nearestPower 36 = .ok (.if_icmp .eq 14, 3) := by decide +kernel
theorem dX1_nearestPower_39 : decode cX1_nearestPower 39 = .ok (.aload_n 0, 1) := by decide +kernel
theorem dX1_nearestPower_40 : decode cX1_nearestPower 40 = .ok (.iload 6, 2) := by decide +kernel
theorem dX1_nearestPower_42 : decode cX1_nearestPower 42 = .ok (.invokevirtual 113, 3) := by decide +kernel
theorem dX1_nearestPower_45 : decode cX1_nearestPower 45 = .ok (.iload 4, 2) := by decide +kernel
theorem dX1_nearestPower_47 : decode cX1_nearestPower 47 = .ok (.if_icmp .ge 14, 3) := by decide +kernel
theorem dX1_nearestPower_50 : decode cX1_nearestPower 50 = .ok (.iload 5, 2) := by decide +kernel
theorem dX1_nearestPower_52 : decode cX1_nearestPower 52 = .ok (.istore_n 3, 1) := by decide +kernel
theorem dX1_nearestPower_53 : decode cX1_nearestPower 53 = .ok (.aload_n 0, 1) := by decide +kernel
theorem dX1_nearestPower_54 : decode cX1_nearestPower 54 = .ok (.iload 6, 2) := by decide +kernel
theorem dX1_nearestPower_56 : decode cX1_nearestPower 56 = .ok (.invokevirtual 113, 3) := by decide +kernel
theorem dX1_nearestPower_59 : decode cX1_nearestPower 59 = .ok (.istore 4, 2) := by decide +kernel
theorem dX1_nearestPower_61 : decode cX1_nearestPower 61 = .ok (.iinc 5 1, 3) := by decide +kernel
theorem dX1_nearestPower_64 : decode cX1_nearestPower 64 = .ok (.goto (-56), 3) := by decide +kernel
theorem dX1_nearestPower_67 : decode cX1_nearestPower 67 = .ok (.iload_n 3, 1) := by decide +kernel
theorem dX1_nearestPower_68 : decode cX1_nearestPower 68 = .ok (.ireturn, 1) := by decide +kernel
theorem dX1_gain_0 : decode cX1_gain 0 = .ok (.aload_n 0, 1) := by decide +kernel
theorem dX1_gain_1 : decode cX1_gain 1 = .ok (.iload_n 1, 1) := by decide +kernel
theorem dX1_gain_2 : decode cX1_gain 2 = .ok (.iload_n 2, 1) := by decide +kernel
theorem dX1_gain_3 : decode cX1_gain 3 = .ok (.invokevirtual 120, 3) := by decide +kernel
theorem dX1_gain_6 : decode cX1_gain 6 = .ok (.istore 5, 2) := by decide +kernel
theorem dX1_gain_8 : decode cX1_gain 8 = .ok (.iload 5, 2) := by decide +kernel
theorem dX1_gain_10 : decode cX1_gain 10 = .ok (.iconst 1, 1) := by decide +kernel
theorem dX1_gain_11 : decode cX1_gain 11 = .ok (.if_icmp .ne 6, 3) := by decide +kernel
theorem dX1_gain_14 : decode cX1_gain 14 = .ok (.iload 4, 2) := by decide +kernel
theorem dX1_gain_16 : decode cX1_gain 16 = .ok (.ireturn, 1) := by decide +kernel
theorem dX1_gain_17 : decode cX1_gain 17 = .ok (.iload 5, 2) := by decide +kernel
theorem dX1_gain_19 : decode cX1_gain 19 = .ok (.iconst 2, 1) := by decide +kernel
theorem dX1_gain_20 : decode cX1_gain 20 = .ok (.if_icmp .eq 11, 3) := by decide +kernel
theorem dX1_gain_23 : decode cX1_gain 23 = .ok (.aload_n 0, 1) := by decide +kernel
theorem dX1_gain_24 : decode cX1_gain 24 = .ok (.iload_n 1, 1) := by decide +kernel
theorem dX1_gain_25 : decode cX1_gain 25 = .ok (.invokevirtual 110, 3) := by decide +kernel
theorem dX1_gain_28 : decode cX1_gain 28 = .ok (.ifCond .eq 8, 3) := by decide +kernel
theorem dX1_gain_31 : decode cX1_gain 31 = .ok (.iload_n 3, 1) := by decide +kernel
theorem dX1_gain_32 : decode cX1_gain 32 = .ok (.ineg, 1) := by decide +kernel
theorem dX1_gain_33 : decode cX1_gain 33 = .ok (.goto 4, 3) := by decide +kernel
theorem dX1_gain_36 : decode cX1_gain 36 = .ok (.iconst 0, 1) := by decide +kernel
theorem dX1_gain_37 : decode cX1_gain 37 = .ok (.ireturn, 1) := by decide +kernel
theorem dX1_restingPowers_0 : decode cX1_restingPowers 0 = .ok (.aload_n 0, 1) := by decide +kernel
theorem dX1_restingPowers_1 : decode cX1_restingPowers 1 = .ok (.getfield 30, 3) := by decide +kernel
theorem dX1_restingPowers_4 : decode cX1_restingPowers 4 = .ok (.iload_n 1, 1) := by decide +kernel
theorem dX1_restingPowers_5 : decode cX1_restingPowers 5 = .ok (.invokevirtual 63, 3) := by decide +kernel
theorem dX1_restingPowers_8 : decode cX1_restingPowers 8 = .ok (.istore 4, 2) := by decide +kernel
theorem dX1_restingPowers_10 : decode cX1_restingPowers 10 = .ok (.aload_n 0, 1) := by decide +kernel
theorem dX1_restingPowers_11 : decode cX1_restingPowers 11 = .ok (.getfield 30, 3) := by decide +kernel
theorem dX1_restingPowers_14 : decode cX1_restingPowers 14 = .ok (.iload_n 2, 1) := by decide +kernel
theorem dX1_restingPowers_15 : decode cX1_restingPowers 15 = .ok (.invokevirtual 63, 3) := by decide +kernel
theorem dX1_restingPowers_18 : decode cX1_restingPowers 18 = .ok (.istore 5, 2) := by decide +kernel
theorem dX1_restingPowers_20 : decode cX1_restingPowers 20 = .ok (.aload_n 0, 1) := by decide +kernel
theorem dX1_restingPowers_21 : decode cX1_restingPowers 21 = .ok (.iload_n 1, 1) := by decide +kernel
theorem dX1_restingPowers_22 : decode cX1_restingPowers 22 = .ok (.iload_n 2, 1) := by decide +kernel
theorem dX1_restingPowers_23 : decode cX1_restingPowers 23 = .ok (.invokevirtual 127, 3) := by decide +kernel
theorem dX1_restingPowers_26 : decode cX1_restingPowers 26 = .ok (.iconst 0, 1) := by decide +kernel
theorem dX1_restingPowers_27 : decode cX1_restingPowers 27 = .ok (.istore 6, 2) := by decide +kernel
theorem dX1_restingPowers_29 : decode cX1_restingPowers 29 = .ok (.iconst 1, 1) := by decide +kernel
theorem dX1_restingPowers_30 : decode cX1_restingPowers 30 = .ok (.istore 7, 2) := by decide +kernel
theorem dX1_restingPowers_32 : decode cX1_restingPowers 32 = .ok (.iload 7, 2) := by decide +kernel
theorem dX1_restingPowers_34 : decode cX1_restingPowers 34 = .ok (.bipush 9, 2) := by decide +kernel
theorem dX1_restingPowers_36 : decode cX1_restingPowers 36 = .ok (.if_icmp .gt 107, 3) := by decide +kernel
theorem dX1_restingPowers_39 : decode cX1_restingPowers 39 = .ok (.iconst 1, 1) := by decide +kernel
theorem dX1_restingPowers_40 : decode cX1_restingPowers 40 = .ok (.istore 8, 2) := by decide +kernel
theorem dX1_restingPowers_42 : decode cX1_restingPowers 42 = .ok (.iload 8, 2) := by decide +kernel
theorem dX1_restingPowers_44 : decode cX1_restingPowers 44 = .ok (.bipush 9, 2) := by decide +kernel
theorem dX1_restingPowers_46 : decode cX1_restingPowers 46 = .ok (.if_icmp .gt 91, 3) := by decide +kernel
theorem dX1_restingPowers_49 : decode cX1_restingPowers 49 = .ok (.aload_n 0, 1) := by decide +kernel
theorem dX1_restingPowers_50 : decode cX1_restingPowers 50 = .ok (.aload_n 0, 1) := by decide +kernel
theorem dX1_restingPowers_51 : decode cX1_restingPowers 51 = .ok (.getfield 18, 3) := by decide +kernel
theorem dX1_restingPowers_54 : decode cX1_restingPowers 54 = .ok (.iload 7, 2) := by decide +kernel
theorem dX1_restingPowers_56 : decode cX1_restingPowers 56 = .ok (.iaload, 1) := by decide +kernel
theorem dX1_restingPowers_57 : decode cX1_restingPowers 57 = .ok (.aload_n 0, 1) := by decide +kernel
theorem dX1_restingPowers_58 : decode cX1_restingPowers 58 = .ok (.getfield 21, 3) := by decide +kernel
theorem dX1_restingPowers_61 : decode cX1_restingPowers 61 = .ok (.iload 8, 2) := by decide +kernel
theorem dX1_restingPowers_63 : decode cX1_restingPowers 63 = .ok (.iaload, 1) := by decide +kernel
theorem dX1_restingPowers_64 : decode cX1_restingPowers 64 = .ok (.iload 4, 2) := by decide +kernel
theorem dX1_restingPowers_66 : decode cX1_restingPowers 66 = .ok (.iload 5, 2) := by decide +kernel
theorem dX1_restingPowers_68 : decode cX1_restingPowers 68 = .ok (.invokevirtual 130, 3) := by decide +kernel
theorem dX1_restingPowers_71 : decode cX1_restingPowers 71 = .ok (.aload_n 0, 1) := by decide +kernel
theorem dX1_restingPowers_72 : decode cX1_restingPowers 72 = .ok (.getfield 24, 3) := by decide +kernel
theorem dX1_restingPowers_75 : decode cX1_restingPowers 75 = .ok (.iload 8, 2) := by decide +kernel
theorem dX1_restingPowers_77 : decode cX1_restingPowers 77 = .ok (.iaload, 1) := by decide +kernel
theorem dX1_restingPowers_78 : decode cX1_restingPowers 78 = .ok (.if_icmp .ne 53, 3) := by decide +kernel
theorem dX1_restingPowers_81 : decode cX1_restingPowers 81 = .ok (.aload_n 0, 1) := by decide +kernel
theorem dX1_restingPowers_82 : decode cX1_restingPowers 82 = .ok (.aload_n 0, 1) := by decide +kernel
theorem dX1_restingPowers_83 : decode cX1_restingPowers 83 = .ok (.getfield 21, 3) := by decide +kernel
theorem dX1_restingPowers_86 : decode cX1_restingPowers 86 = .ok (.iload 8, 2) := by decide +kernel
theorem dX1_restingPowers_88 : decode cX1_restingPowers 88 = .ok (.iaload, 1) := by decide +kernel
theorem dX1_restingPowers_89 : decode cX1_restingPowers 89 = .ok (.aload_n 0, 1) := by decide +kernel
theorem dX1_restingPowers_90 : decode cX1_restingPowers 90 = .ok (.getfield 18, 3) := by decide +kernel
theorem dX1_restingPowers_93 : decode cX1_restingPowers 93 = .ok (.iload 7, 2) := by decide +kernel
theorem dX1_restingPowers_95 : decode cX1_restingPowers 95 = .ok (.iaload, 1) := by decide +kernel
theorem dX1_restingPowers_96 : decode cX1_restingPowers 96 = .ok (.iload 5, 2) := by decide +kernel
theorem dX1_restingPowers_98 : decode cX1_restingPowers 98 = .ok (.iload 4, 2) := by decide +kernel
theorem dX1_restingPowers_100 : decode cX1_restingPowers 100 = .ok (.invokevirtual 130, 3) := by decide +kernel
theorem dX1_restingPowers_103 : decode cX1_restingPowers 103 = .ok (.aload_n 0, 1) := by decide +kernel
theorem dX1_restingPowers_104 : decode cX1_restingPowers 104 = .ok (.getfield 27, 3) := by decide +kernel
theorem dX1_restingPowers_107 : decode cX1_restingPowers 107 = .ok (.iload 7, 2) := by decide +kernel
theorem dX1_restingPowers_109 : decode cX1_restingPowers 109 = .ok (.iaload, 1) := by decide +kernel
theorem dX1_restingPowers_110 : decode cX1_restingPowers 110 = .ok (.if_icmp .ne 21, 3) := by decide +kernel
theorem dX1_restingPowers_113 : decode cX1_restingPowers 113 = .ok (.iload 6, 2) := by decide +kernel
theorem dX1_restingPowers_115 : decode cX1_restingPowers 115 = .ok (.iload_n 3, 1) := by decide +kernel
theorem dX1_restingPowers_116 : decode cX1_restingPowers 116 = .ok (.if_icmp .ne 12, 3) := by decide +kernel
theorem dX1_restingPowers_119 : decode cX1_restingPowers 119 = .ok (.bipush 10, 2) := by decide +kernel
theorem dX1_restingPowers_121 : decode cX1_restingPowers 121 = .ok (.iload 7, 2) := by decide +kernel
theorem dX1_restingPowers_123 : decode cX1_restingPowers 123 = .ok (.imul, 1) := by decide +kernel
theorem dX1_restingPowers_124 : decode cX1_restingPowers 124 = .ok (.iload 8, 2) := by decide +kernel
theorem dX1_restingPowers_126 : decode cX1_restingPowers 126 = .ok (.iadd, 1) := by decide +kernel
theorem dX1_restingPowers_127 : decode cX1_restingPowers 127 = .ok (.ireturn, 1) := by decide +kernel
theorem dX1_restingPowers_128 : decode cX1_restingPowers 128 = .ok (.iinc 6 1, 3) := by decide +kernel
theorem dX1_restingPowers_131 : decode cX1_restingPowers 131 = .ok (.iinc 8 1, 3) := by decide +kernel
theorem dX1_restingPowers_134 : decode cX1_restingPowers 134 = .ok (.goto (-92), 3) := by decide +kernel
theorem dX1_restingPowers_137 : decode cX1_restingPowers 137 = .ok (.iinc 7 1, 3) := by decide +kernel
theorem dX1_restingPowers_140 : decode cX1_restingPowers 140 = .ok (.goto (-108), 3) := by decide +kernel
theorem dX1_restingPowers_143 : decode cX1_restingPowers 143 = .ok (.iload_n 3, 1) := by decide +kernel
theorem dX1_restingPowers_144 : decode cX1_restingPowers 144 = .ok (.iconst (-1), 1) := by decide +kernel
theorem dX1_restingPowers_145 : decode cX1_restingPowers 145 = .ok (.if_icmp .ne 8, 3) := by decide +kernel
theorem dX1_restingPowers_148 : decode cX1_restingPowers 148 = .ok (.iload 6, 2) := by decide +kernel
theorem dX1_restingPowers_150 : decode cX1_restingPowers 150 = .ok (.goto 4, 3) := by decide +kernel
theorem dX1_restingPowers_153 : decode cX1_restingPowers 153 = .ok (.iconst (-1), 1) := by decide +kernel
theorem dX1_restingPowers_154 : decode cX1_restingPowers 154 = .ok (.ireturn, 1) := by decide +kernel
theorem dX1_findBestAnswers_0 : decode cX1_findBestAnswers 0 = .ok (.aload_n 0, 1) := by decide +kernel
theorem dX1_findBestAnswers_1 : decode cX1_findBestAnswers 1 = .ok (.getfield 30, 3) := by decide +kernel
theorem dX1_findBestAnswers_4 : decode cX1_findBestAnswers 4 = .ok (.iload_n 1, 1) := by decide +kernel
theorem dX1_findBestAnswers_5 : decode cX1_findBestAnswers 5 = .ok (.invokevirtual 63, 3) := by decide +kernel
theorem dX1_findBestAnswers_8 : decode cX1_findBestAnswers 8 = .ok (.istore_n 3, 1) := by decide +kernel
theorem dX1_findBestAnswers_9 : decode cX1_findBestAnswers 9 = .ok (.aload_n 0, 1) := by decide +kernel
theorem dX1_findBestAnswers_10 : decode cX1_findBestAnswers 10 = .ok (.getfield 30, 3) := by decide +kernel
theorem dX1_findBestAnswers_13 : decode cX1_findBestAnswers 13 = .ok (.iload_n 2, 1) := by decide +kernel
theorem dX1_findBestAnswers_14 : decode cX1_findBestAnswers 14 = .ok (.invokevirtual 63, 3) := by decide +kernel
theorem dX1_findBestAnswers_17 : decode cX1_findBestAnswers 17 = .ok (.istore 4, 2) := by decide +kernel
theorem dX1_findBestAnswers_19 : decode cX1_findBestAnswers 19 = .ok (.iconst 1, 1) := by decide +kernel
theorem dX1_findBestAnswers_20 : decode cX1_findBestAnswers 20 = .ok (.istore 5, 2) := by decide +kernel
theorem dX1_findBestAnswers_22 : decode cX1_findBestAnswers 22 = .ok (.iload 5, 2) := by decide +kernel
theorem dX1_findBestAnswers_24 : decode cX1_findBestAnswers 24 = .ok (.bipush 9, 2) := by decide +kernel
theorem dX1_findBestAnswers_26 : decode cX1_findBestAnswers 26 = .ok (.if_icmp .gt 72, 3) := by decide +kernel
theorem dX1_findBestAnswers_29 : decode cX1_findBestAnswers 29 = .ok (.aload_n 0, 1) := by decide +kernel
theorem dX1_findBestAnswers_30 : decode cX1_findBestAnswers 30 = .ok (.getfield 18, 3) := by decide +kernel
theorem dX1_findBestAnswers_33 : decode cX1_findBestAnswers 33 = .ok (.iload 5, 2) := by decide +kernel
theorem dX1_findBestAnswers_35 : decode cX1_findBestAnswers 35 = .ok (.aload_n 0, 1) := by decide +kernel
theorem dX1_findBestAnswers_36 : decode cX1_findBestAnswers 36 = .ok (.aload_n 0, 1) := by decide +kernel
theorem dX1_findBestAnswers_37 : decode cX1_findBestAnswers 37 = .ok (.getfield 34, 3) := by decide +kernel
theorem dX1_findBestAnswers_40 : decode cX1_findBestAnswers 40 = .ok (.iload_n 1, 1) := by decide +kernel
theorem dX1_findBestAnswers_41 : decode cX1_findBestAnswers 41 = .ok (.invokevirtual 56, 3) := by decide +kernel
theorem dX1_findBestAnswers_44 : decode cX1_findBestAnswers 44 = .ok (.iload_n 1, 1) := by decide +kernel
theorem dX1_findBestAnswers_45 : decode cX1_findBestAnswers 45 = .ok (.iload 5, 2) := by decide +kernel
theorem dX1_findBestAnswers_47 : decode cX1_findBestAnswers 47 = .ok (.invokevirtual 116, 3) := by decide +kernel
theorem dX1_findBestAnswers_50 : decode cX1_findBestAnswers 50 = .ok (.iastore, 1) := by decide +kernel
theorem dX1_findBestAnswers_51 : decode cX1_findBestAnswers 51 = .ok (.aload_n 0, 1) := by decide +kernel
theorem dX1_findBestAnswers_52 : decode cX1_findBestAnswers 52 = .ok (.getfield 21, 3) := by decide +kernel
theorem dX1_findBestAnswers_55 : decode cX1_findBestAnswers 55 = .ok (.iload 5, 2) := by decide +kernel
theorem dX1_findBestAnswers_57 : decode cX1_findBestAnswers 57 = .ok (.aload_n 0, 1) := by decide +kernel
theorem dX1_findBestAnswers_58 : decode cX1_findBestAnswers 58 = .ok (.aload_n 0, 1) := by decide +kernel
theorem dX1_findBestAnswers_59 : decode cX1_findBestAnswers 59 = .ok (.getfield 34, 3) := by decide +kernel
theorem dX1_findBestAnswers_62 : decode cX1_findBestAnswers 62 = .ok (.iload_n 2, 1) := by decide +kernel
theorem dX1_findBestAnswers_63 : decode cX1_findBestAnswers 63 = .ok (.invokevirtual 56, 3) := by decide +kernel
theorem dX1_findBestAnswers_66 : decode cX1_findBestAnswers 66 = .ok (.iload_n 2, 1) := by decide +kernel
theorem dX1_findBestAnswers_67 : decode cX1_findBestAnswers 67 = .ok (.iload 5, 2) := by decide +kernel
theorem dX1_findBestAnswers_69 : decode cX1_findBestAnswers 69 = .ok (.invokevirtual 116, 3) := by decide +kernel
theorem dX1_findBestAnswers_72 : decode cX1_findBestAnswers 72 = .ok (.iastore, 1) := by decide +kernel
theorem dX1_findBestAnswers_73 : decode cX1_findBestAnswers 73 = .ok (.aload_n 0, 1) := by decide +kernel
theorem dX1_findBestAnswers_74 : decode cX1_findBestAnswers 74 = .ok (.getfield 24, 3) := by decide +kernel
theorem dX1_findBestAnswers_77 : decode cX1_findBestAnswers 77 = .ok (.iload 5, 2) := by decide +kernel
theorem dX1_findBestAnswers_79 : decode cX1_findBestAnswers 79 = .ok (.iload_n 3, 1) := by decide +kernel
theorem dX1_findBestAnswers_80 : decode cX1_findBestAnswers 80 = .ok (.ineg, 1) := by decide +kernel
theorem dX1_findBestAnswers_81 : decode cX1_findBestAnswers 81 = .ok (.iastore, 1) := by decide +kernel
theorem dX1_findBestAnswers_82 : decode cX1_findBestAnswers 82 = .ok (.aload_n 0, 1) := by decide +kernel
theorem dX1_findBestAnswers_83 : decode cX1_findBestAnswers 83 = .ok (.getfield 27, 3) := by decide +kernel
theorem dX1_findBestAnswers_86 : decode cX1_findBestAnswers 86 = .ok (.iload 5, 2) := by decide +kernel
theorem dX1_findBestAnswers_88 : decode cX1_findBestAnswers 88 = .ok (.iload 4, 2) := by decide +kernel
theorem dX1_findBestAnswers_90 : decode cX1_findBestAnswers 90 = .ok (.ineg, 1) := by decide +kernel
theorem dX1_findBestAnswers_91 : decode cX1_findBestAnswers 91 = .ok (.iastore, 1) := by decide +kernel
theorem dX1_findBestAnswers_92 : decode cX1_findBestAnswers 92 = .ok (.iinc 5 1, 3) := by decide +kernel
theorem dX1_findBestAnswers_95 : decode cX1_findBestAnswers 95 = .ok (.goto (-73), 3) := by decide +kernel
theorem dX1_findBestAnswers_98 : decode cX1_findBestAnswers 98 = .ok (.iconst 1, 1) := by decide +kernel
theorem dX1_findBestAnswers_99 : decode cX1_findBestAnswers 99 = .ok (.istore 5, 2) := by decide +kernel
theorem dX1_findBestAnswers_101 : decode cX1_findBestAnswers 101 = .ok (.iload 5, 2) := by decide +kernel
theorem dX1_findBestAnswers_103 : decode cX1_findBestAnswers 103 = .ok (.bipush 9, 2) := by decide +kernel
theorem dX1_findBestAnswers_105 : decode cX1_findBestAnswers 105 = .ok (.if_icmp .gt 109, 3) := by decide +kernel
theorem dX1_findBestAnswers_108 : decode cX1_findBestAnswers 108 = .ok (.iconst 1, 1) := by decide +kernel
theorem dX1_findBestAnswers_109 : decode cX1_findBestAnswers 109 = .ok (.istore 6, 2) := by decide +kernel
theorem dX1_findBestAnswers_111 : decode cX1_findBestAnswers 111 = .ok (.iload 6, 2) := by decide +kernel
theorem dX1_findBestAnswers_113 : decode cX1_findBestAnswers 113 = .ok (.bipush 9, 2) := by decide +kernel
theorem dX1_findBestAnswers_115 : decode cX1_findBestAnswers 115 = .ok (.if_icmp .gt 93, 3) := by decide +kernel
theorem dX1_findBestAnswers_118 : decode cX1_findBestAnswers 118 = .ok (.aload_n 0, 1) := by decide +kernel
theorem dX1_findBestAnswers_119 : decode cX1_findBestAnswers 119 = .ok (.aload_n 0, 1) := by decide +kernel
theorem dX1_findBestAnswers_120 : decode cX1_findBestAnswers 120 = .ok (.getfield 18, 3) := by decide +kernel
theorem dX1_findBestAnswers_123 : decode cX1_findBestAnswers 123 = .ok (.iload 5, 2) := by decide +kernel
theorem dX1_findBestAnswers_125 : decode cX1_findBestAnswers 125 = .ok (.iaload, 1) := by decide +kernel
theorem dX1_findBestAnswers_126 : decode cX1_findBestAnswers 126 = .ok (.aload_n 0, 1) := by decide +kernel
theorem dX1_findBestAnswers_127 : decode cX1_findBestAnswers 127 = .ok (.getfield 21, 3) := by decide +kernel
theorem dX1_findBestAnswers_130 : decode cX1_findBestAnswers 130 = .ok (.iload 6, 2) := by decide +kernel
theorem dX1_findBestAnswers_132 : decode cX1_findBestAnswers 132 = .ok (.iaload, 1) := by decide +kernel
theorem dX1_findBestAnswers_133 : decode cX1_findBestAnswers 133 = .ok (.iload_n 3, 1) := by decide +kernel
theorem dX1_findBestAnswers_134 : decode cX1_findBestAnswers 134 = .ok (.iload 4, 2) := by decide +kernel
theorem dX1_findBestAnswers_136 : decode cX1_findBestAnswers 136 = .ok (.invokevirtual 130, 3) := by decide +kernel
theorem dX1_findBestAnswers_139 : decode cX1_findBestAnswers 139 = .ok (.istore 7, 2) := by decide +kernel
theorem dX1_findBestAnswers_141 : decode cX1_findBestAnswers 141 = .ok (.aload_n 0, 1) := by decide +kernel
theorem dX1_findBestAnswers_142 : decode cX1_findBestAnswers 142 = .ok (.aload_n 0, 1) := by decide +kernel
theorem dX1_findBestAnswers_143 : decode cX1_findBestAnswers 143 = .ok (.getfield 21, 3) := by decide +kernel
theorem dX1_findBestAnswers_146 : decode cX1_findBestAnswers 146 = .ok (.iload 6, 2) := by decide +kernel
theorem dX1_findBestAnswers_148 : decode cX1_findBestAnswers 148 = .ok (.iaload, 1) := by decide +kernel
theorem dX1_findBestAnswers_149 : decode cX1_findBestAnswers 149 = .ok (.aload_n 0, 1) := by decide +kernel
theorem dX1_findBestAnswers_150 : decode cX1_findBestAnswers 150 = .ok (.getfield 18, 3) := by decide +kernel
theorem dX1_findBestAnswers_153 : decode cX1_findBestAnswers 153 = .ok (.iload 5, 2) := by decide +kernel
theorem dX1_findBestAnswers_155 : decode cX1_findBestAnswers 155 = .ok (.iaload, 1) := by decide +kernel
theorem dX1_findBestAnswers_156 : decode cX1_findBestAnswers 156 = .ok (.iload 4, 2) := by decide +kernel
theorem dX1_findBestAnswers_158 : decode cX1_findBestAnswers 158 = .ok (.iload_n 3, 1) := by decide +kernel
theorem dX1_findBestAnswers_159 : decode cX1_findBestAnswers 159 = .ok (.invokevirtual 130, 3) := by decide +kernel
theorem dX1_findBestAnswers_162 : decode cX1_findBestAnswers 162 = .ok (.istore 8, 2) := by decide +kernel
theorem dX1_findBestAnswers_164 : decode cX1_findBestAnswers 164 = .ok (.aload_n 0, 1) := by decide +kernel
theorem dX1_findBestAnswers_165 : decode cX1_findBestAnswers 165 = .ok (.getfield 24, 3) := by decide +kernel
theorem dX1_findBestAnswers_168 : decode cX1_findBestAnswers 168 = .ok (.iload 6, 2) := by decide +kernel
theorem dX1_findBestAnswers_170 : decode cX1_findBestAnswers 170 = .ok (.aload_n 0, 1) := by decide +kernel
theorem dX1_findBestAnswers_171 : decode cX1_findBestAnswers 171 = .ok (.getfield 24, 3) := by decide +kernel
theorem dX1_findBestAnswers_174 : decode cX1_findBestAnswers 174 = .ok (.iload 6, 2) := by decide +kernel
theorem dX1_findBestAnswers_176 : decode cX1_findBestAnswers 176 = .ok (.iaload, 1) := by decide +kernel
theorem dX1_findBestAnswers_177 : decode cX1_findBestAnswers 177 = .ok (.iload 7, 2) := by decide +kernel
theorem dX1_findBestAnswers_179 : decode cX1_findBestAnswers 179 = .ok (.invokestatic 97, 3) := by decide +kernel
theorem dX1_findBestAnswers_182 : decode cX1_findBestAnswers 182 = .ok (.iastore, 1) := by decide +kernel
theorem dX1_findBestAnswers_183 : decode cX1_findBestAnswers 183 = .ok (.aload_n 0, 1) := by decide +kernel
theorem dX1_findBestAnswers_184 : decode cX1_findBestAnswers 184 = .ok (.getfield 27, 3) := by decide +kernel
theorem dX1_findBestAnswers_187 : decode cX1_findBestAnswers 187 = .ok (.iload 5, 2) := by decide +kernel
theorem dX1_findBestAnswers_189 : decode cX1_findBestAnswers 189 = .ok (.aload_n 0, 1) := by decide +kernel
theorem dX1_findBestAnswers_190 : decode cX1_findBestAnswers 190 = .ok (.getfield 27, 3) := by decide +kernel
theorem dX1_findBestAnswers_193 : decode cX1_findBestAnswers 193 = .ok (.iload 5, 2) := by decide +kernel
theorem dX1_findBestAnswers_195 : decode cX1_findBestAnswers 195 = .ok (.iaload, 1) := by decide +kernel
theorem dX1_findBestAnswers_196 : decode cX1_findBestAnswers 196 = .ok (.iload 8, 2) := by decide +kernel
theorem dX1_findBestAnswers_198 : decode cX1_findBestAnswers 198 = .ok (.invokestatic 97, 3) := by decide +kernel
theorem dX1_findBestAnswers_201 : decode cX1_findBestAnswers 201 = .ok (.iastore, 1) := by decide +kernel
theorem dX1_findBestAnswers_202 : decode cX1_findBestAnswers 202 = .ok (.iinc 6 1, 3) := by decide +kernel
theorem dX1_findBestAnswers_205 : decode cX1_findBestAnswers 205 = .ok (.goto (-94), 3) := by decide +kernel
theorem dX1_findBestAnswers_208 : decode cX1_findBestAnswers 208 = .ok (.iinc 5 1, 3) := by decide +kernel
theorem dX1_findBestAnswers_211 : decode cX1_findBestAnswers 211 = .ok (.goto (-110), 3) := by decide +kernel
theorem dX1_findBestAnswers_214 : decode cX1_findBestAnswers 214 = .ok (.return_, 1) := by decide +kernel
theorem dX1_winningParts_0 : decode cX1_winningParts 0 = .ok (.iconst 0, 1) := by decide +kernel
theorem dX1_winningParts_1 : decode cX1_winningParts 1 = .ok (.istore 4, 2) := by decide +kernel
theorem dX1_winningParts_3 : decode cX1_winningParts 3 = .ok (.iconst (-1), 1) := by decide +kernel
theorem dX1_winningParts_4 : decode cX1_winningParts 4 = .ok (.istore 5, 2) := by decide +kernel
theorem dX1_winningParts_6 : decode cX1_winningParts 6 = .ok (.iload 5, 2) := by decide +kernel
theorem dX1_winningParts_8 : decode cX1_winningParts 8 = .ok (.iconst 1, 1) := by decide +kernel
theorem dX1_winningParts_9 : decode cX1_winningParts 9 = .ok (.if_icmp .gt 71, 3) := by decide +kernel
theorem dX1_winningParts_12 : decode cX1_winningParts 12 = .ok (.ldc 134, 2) := by decide +kernel
theorem dX1_winningParts_14 : decode cX1_winningParts 14 = .ok (.iload 5, 2) := by decide +kernel
theorem dX1_winningParts_16 : decode cX1_winningParts 16 = .ok (.iload_n 3, 1) := by decide +kernel
theorem dX1_winningParts_17 : decode cX1_winningParts 17 = .ok (.invokestatic 135, 3) := by decide +kernel
theorem dX1_winningParts_20 : decode cX1_winningParts 20 = .ok (.istore 6, 2) := by decide +kernel
theorem dX1_winningParts_22 : decode cX1_winningParts 22 = .ok (.iconst (-1), 1) := by decide +kernel
theorem dX1_winningParts_23 : decode cX1_winningParts 23 = .ok (.istore 7, 2) := by decide +kernel
theorem dX1_winningParts_25 : decode cX1_winningParts 25 = .ok (.iload 7, 2) := by decide +kernel
theorem dX1_winningParts_27 : decode cX1_winningParts 27 = .ok (.iconst 1, 1) := by decide +kernel
theorem dX1_winningParts_28 : decode cX1_winningParts 28 = .ok (.if_icmp .gt 46, 3) := by decide +kernel
theorem dX1_winningParts_31 : decode cX1_winningParts 31 = .ok (.aload_n 0, 1) := by decide +kernel
theorem dX1_winningParts_32 : decode cX1_winningParts 32 = .ok (.iconst 0, 1) := by decide +kernel
theorem dX1_winningParts_33 : decode cX1_winningParts 33 = .ok (.iload_n 1, 1) := by decide +kernel
theorem dX1_winningParts_34 : decode cX1_winningParts 34 = .ok (.iload 5, 2) := by decide +kernel
theorem dX1_winningParts_36 : decode cX1_winningParts 36 = .ok (.iadd, 1) := by decide +kernel
theorem dX1_winningParts_37 : decode cX1_winningParts 37 = .ok (.invokestatic 97, 3) := by decide +kernel
theorem dX1_winningParts_40 : decode cX1_winningParts 40 = .ok (.iconst 0, 1) := by decide +kernel
theorem dX1_winningParts_41 : decode cX1_winningParts 41 = .ok (.iload_n 2, 1) := by decide +kernel
theorem dX1_winningParts_42 : decode cX1_winningParts 42 = .ok (.iload 7, 2) := by decide +kernel
theorem dX1_winningParts_44 : decode cX1_winningParts 44 = .ok (.iadd, 1) := by decide +kernel
theorem dX1_winningParts_45 : decode cX1_winningParts 45 = .ok (.invokestatic 97, 3) := by decide +kernel
theorem dX1_winningParts_48 : decode cX1_winningParts 48 = .ok (.invokevirtual 120, 3) := by decide +kernel
theorem dX1_winningParts_51 : decode cX1_winningParts 51 = .ok (.iconst 1, 1) := by decide +kernel
theorem dX1_winningParts_52 : decode cX1_winningParts 52 = .ok (.if_icmp .ne 16, 3) := by decide +kernel
theorem dX1_winningParts_55 : decode cX1_winningParts 55 = .ok (.iload 4, 2) := by decide +kernel
theorem dX1_winningParts_57 : decode cX1_winningParts 57 = .ok (.iload 6, 2) := by decide +kernel
theorem dX1_winningParts_59 : decode cX1_winningParts 59 = .ok (.iload 7, 2) := by decide +kernel
theorem dX1_winningParts_61 : decode cX1_winningParts 61 = .ok (.iload_n 3, 1) := by decide +kernel
theorem dX1_winningParts_62 : decode cX1_winningParts 62 = .ok (.invokestatic 135, 3) := by decide +kernel
theorem dX1_winningParts_65 : decode cX1_winningParts 65 = .ok (.iadd, 1) := by decide +kernel
theorem dX1_winningParts_66 : decode cX1_winningParts 66 = .ok (.istore 4, 2) := by decide +kernel
theorem dX1_winningParts_68 : decode cX1_winningParts 68 = .ok (.iinc 7 1, 3) := by decide +kernel
theorem dX1_winningParts_71 : decode cX1_winningParts 71 = .ok (.goto (-46), 3) := by decide +kernel
theorem dX1_winningParts_74 : decode cX1_winningParts 74 = .ok (.iinc 5 1, 3) := by decide +kernel
theorem dX1_winningParts_77 : decode cX1_winningParts 77 = .ok (.goto (-71), 3) := by decide +kernel
theorem dX1_winningParts_80 : decode cX1_winningParts 80 = .ok (.iload 4, 2) := by decide +kernel
theorem dX1_winningParts_82 : decode cX1_winningParts 82 = .ok (.ireturn, 1) := by decide +kernel
theorem dX1_partsOf_0 : decode cX1_partsOf 0 = .ok (.iload_n 0, 1) := by decide +kernel
theorem dX1_partsOf_1 : decode cX1_partsOf 1 = .ok (.i2l, 1) := by decide +kernel
theorem dX1_partsOf_2 : decode cX1_partsOf 2 = .ok (.iload_n 2, 1) := by decide +kernel
theorem dX1_partsOf_3 : decode cX1_partsOf 3 = .ok (.i2l, 1) := by decide +kernel
theorem dX1_partsOf_4 : decode cX1_partsOf 4 = .ok (.lmul, 1) := by decide +kernel
theorem dX1_partsOf_5 : decode cX1_partsOf 5 = .ok (.ldc2_w 138, 3) := by decide +kernel
theorem dX1_partsOf_8 : decode cX1_partsOf 8 = .ok (.ldiv, 1) := by decide +kernel
theorem dX1_partsOf_9 : decode cX1_partsOf 9 = .ok (.l2i, 1) := by decide +kernel
theorem dX1_partsOf_10 : decode cX1_partsOf 10 = .ok (.istore_n 3, 1) := by decide +kernel
theorem dX1_partsOf_11 : decode cX1_partsOf 11 = .ok (.iload_n 3, 1) := by decide +kernel
theorem dX1_partsOf_12 : decode cX1_partsOf 12 = .ok (.iconst 2, 1) := by decide +kernel
theorem dX1_partsOf_13 : decode cX1_partsOf 13 = .ok (.idiv, 1) := by decide +kernel
theorem dX1_partsOf_14 : decode cX1_partsOf 14 = .ok (.istore 4, 2) := by decide +kernel
theorem dX1_partsOf_16 : decode cX1_partsOf 16 = .ok (.iload_n 1, 1) := by decide +kernel
theorem dX1_partsOf_17 : decode cX1_partsOf 17 = .ok (.ifCond .ne 7, 3) := by decide +kernel
theorem dX1_partsOf_20 : decode cX1_partsOf 20 = .ok (.iload_n 0, 1) := by decide +kernel
theorem dX1_partsOf_21 : decode cX1_partsOf 21 = .ok (.iload_n 3, 1) := by decide +kernel
theorem dX1_partsOf_22 : decode cX1_partsOf 22 = .ok (.isub, 1) := by decide +kernel
theorem dX1_partsOf_23 : decode cX1_partsOf 23 = .ok (.ireturn, 1) := by decide +kernel
theorem dX1_partsOf_24 : decode cX1_partsOf 24 = .ok (.iload_n 1, 1) := by decide +kernel
theorem dX1_partsOf_25 : decode cX1_partsOf 25 = .ok (.ifCond .ge 8, 3) := by decide +kernel
theorem dX1_partsOf_28 : decode cX1_partsOf 28 = .ok (.iload 4, 2) := by decide +kernel
theorem dX1_partsOf_30 : decode cX1_partsOf 30 = .ok (.goto 7, 3) := by decide +kernel
theorem dX1_partsOf_33 : decode cX1_partsOf 33 = .ok (.iload_n 3, 1) := by decide +kernel
theorem dX1_partsOf_34 : decode cX1_partsOf 34 = .ok (.iload 4, 2) := by decide +kernel
theorem dX1_partsOf_36 : decode cX1_partsOf 36 = .ok (.isub, 1) := by decide +kernel
theorem dX1_partsOf_37 : decode cX1_partsOf 37 = .ok (.ireturn, 1) := by decide +kernel
theorem dX2_init_0 : decode cX2_init 0 = .ok (.aload_n 0, 1) := by decide +kernel
theorem dX2_init_1 : decode cX2_init 1 = .ok (.invokespecial 3, 3) := by decide +kernel
theorem dX2_init_4 : decode cX2_init 4 = .ok (.aload_n 0, 1) := by decide +kernel
theorem dX2_init_5 : decode cX2_init 5 = .ok (.sipush 240, 3) := by decide +kernel
theorem dX2_init_8 : decode cX2_init 8 = .ok (.newarray .int, 2) := by decide +kernel
theorem dX2_init_10 : decode cX2_init 10 = .ok (.putfield 9, 3) := by decide +kernel
theorem dX2_init_13 : decode cX2_init 13 = .ok (.aload_n 0, 1) := by decide +kernel
theorem dX2_init_14 : decode cX2_init 14 = .ok (.aload_n 1, 1) := by decide +kernel
theorem dX2_init_15 : decode cX2_init 15 = .ok (.putfield 15, 3) := by decide +kernel
theorem dX2_init_18 : decode cX2_init 18 = .ok (.return_, 1) := by decide +kernel
theorem dX2_copyCode_0 : decode cX2_copyCode 0 = .ok (.iconst 0, 1) := by decide +kernel
theorem dX2_copyCode_1 : decode cX2_copyCode 1 = .ok (.istore_n 3, 1) := by decide +kernel
theorem dX2_copyCode_2 : decode cX2_copyCode 2 = .ok (.iload_n 3, 1) := by decide +kernel
theorem dX2_copyCode_3 : decode cX2_copyCode 3 = .ok (.aload_n 0, 1) := by decide +kernel
theorem dX2_copyCode_4 : decode cX2_copyCode 4 = .ok (.getfield 19, 3) := by decide +kernel
theorem dX2_copyCode_7 : decode cX2_copyCode 7 = .ok (.if_icmp .ge 28, 3) := by decide +kernel
theorem dX2_copyCode_10 : decode cX2_copyCode 10 = .ok (.iload_n 2, 1) := by decide +kernel
theorem dX2_copyCode_11 : decode cX2_copyCode 11 = .ok (.iload_n 3, 1) := by decide +kernel
theorem dX2_copyCode_12 : decode cX2_copyCode 12 = .ok (.iadd, 1) := by decide +kernel
theorem dX2_copyCode_13 : decode cX2_copyCode 13 = .ok (.aload_n 1, 1) := by decide +kernel
theorem dX2_copyCode_14 : decode cX2_copyCode 14 = .ok (.arraylength, 1) := by decide +kernel
theorem dX2_copyCode_15 : decode cX2_copyCode 15 = .ok (.if_icmp .ge 20, 3) := by decide +kernel
theorem dX2_copyCode_18 : decode cX2_copyCode 18 = .ok (.aload_n 1, 1) := by decide +kernel
theorem dX2_copyCode_19 : decode cX2_copyCode 19 = .ok (.iload_n 2, 1) := by decide +kernel
theorem dX2_copyCode_20 : decode cX2_copyCode 20 = .ok (.iload_n 3, 1) := by decide +kernel
theorem dX2_copyCode_21 : decode cX2_copyCode 21 = .ok (.iadd, 1) := by decide +kernel
theorem dX2_copyCode_22 : decode cX2_copyCode 22 = .ok (.aload_n 0, 1) := by decide +kernel
theorem dX2_copyCode_23 : decode cX2_copyCode 23 = .ok (.getfield 9, 3) := by decide +kernel
theorem dX2_copyCode_26 : decode cX2_copyCode 26 = .ok (.iload_n 3, 1) := by decide +kernel
theorem dX2_copyCode_27 : decode cX2_copyCode 27 = .ok (.iaload, 1) := by decide +kernel
theorem dX2_copyCode_28 : decode cX2_copyCode 28 = .ok (.iastore, 1) := by decide +kernel
theorem dX2_copyCode_29 : decode cX2_copyCode 29 = .ok (.iinc 3 1, 3) := by decide +kernel
theorem dX2_copyCode_32 : decode cX2_copyCode 32 = .ok (.goto (-30), 3) := by decide +kernel
theorem dX2_copyCode_35 : decode cX2_copyCode 35 = .ok (.aload_n 0, 1) := by decide +kernel
theorem dX2_copyCode_36 : decode cX2_copyCode 36 = .ok (.getfield 19, 3) := by decide +kernel
theorem dX2_copyCode_39 : decode cX2_copyCode 39 = .ok (.ireturn, 1) := by decide +kernel
theorem dX2_reads_0 : decode cX2_reads 0 = .ok (.aload_n 0, 1) := by decide +kernel
theorem dX2_reads_1 : decode cX2_reads 1 = .ok (.iconst 0, 1) := by decide +kernel
theorem dX2_reads_2 : decode cX2_reads 2 = .ok (.putfield 19, 3) := by decide +kernel
theorem dX2_reads_5 : decode cX2_reads 5 = .ok (.aload_n 0, 1) := by decide +kernel
theorem dX2_reads_6 : decode cX2_reads 6 = .ok (.getfield 15, 3) := by decide +kernel
theorem dX2_reads_9 : decode cX2_reads 9 = .ok (.invokevirtual 23, 3) := by decide +kernel
theorem dX2_reads_12 : decode cX2_reads 12 = .ok (.iconst 1, 1) := by decide +kernel
theorem dX2_reads_13 : decode cX2_reads 13 = .ok (.istore_n 1, 1) := by decide +kernel
theorem dX2_reads_14 : decode cX2_reads 14 = .ok (.iconst 0, 1) := by decide +kernel
theorem dX2_reads_15 : decode cX2_reads 15 = .ok (.istore_n 2, 1) := by decide +kernel
theorem dX2_reads_16 : decode cX2_reads 16 = .ok (.iload_n 2, 1) := by decide +kernel
theorem dX2_reads_17 : decode cX2_reads 17 = .ok (.sipush 240, 3) := by decide +kernel
theorem dX2_reads_20 : decode cX2_reads 20 = .ok (.if_icmp .ge 32, 3) := by decide +kernel
theorem dX2_reads_23 : decode cX2_reads 23 = .ok (.iload_n 1, 1) := by decide +kernel
theorem dX2_reads_24 : decode cX2_reads 24 = .ok (.ifCond .eq 28, 3) := by decide +kernel
theorem dX2_reads_27 : decode cX2_reads 27 = .ok (.aload_n 0, 1) := by decide +kernel
theorem dX2_reads_28 : decode cX2_reads 28 = .ok (.invokevirtual 28, 3) := by decide +kernel
theorem dX2_reads_31 : decode cX2_reads 31 = .ok (.ifCond .ne 5, 3) := by decide +kernel
theorem dX2_reads_34 : decode cX2_reads 34 = .ok (.iconst 0, 1) := by decide +kernel
theorem dX2_reads_35 : decode cX2_reads 35 = .ok (.ireturn, 1) := by decide +kernel
theorem dX2_reads_36 : decode cX2_reads 36 = .ok (.aload_n 0, 1) := by decide +kernel
theorem dX2_reads_37 : decode cX2_reads 37 = .ok (.getfield 15, 3) := by decide +kernel
theorem dX2_reads_40 : decode cX2_reads 40 = .ok (.bipush 59, 2) := by decide +kernel
theorem dX2_reads_42 : decode cX2_reads 42 = .ok (.invokevirtual 32, 3) := by decide +kernel
theorem dX2_reads_45 : decode cX2_reads 45 = .ok (.istore_n 1, 1) := by decide +kernel
theorem dX2_reads_46 : decode cX2_reads 46 = .ok (.iinc 2 1, 3) := by decide +kernel
theorem dX2_reads_49 : decode cX2_reads 49 = .ok (.goto (-33), 3) := by decide +kernel
theorem dX2_reads_52 : decode cX2_reads 52 = .ok (.aload_n 0, 1) := by decide +kernel
theorem dX2_reads_53 : decode cX2_reads 53 = .ok (.getfield 15, 3) := by decide +kernel
theorem dX2_reads_56 : decode cX2_reads 56 = .ok (.invokevirtual 36, 3) := by decide +kernel
theorem dX2_reads_59 : decode cX2_reads 59 = .ok (.iconst (-1), 1) := by decide +kernel
theorem dX2_reads_60 : decode cX2_reads 60 = .ok (.if_icmp .ne 7, 3) := by decide +kernel
theorem dX2_reads_63 : decode cX2_reads 63 = .ok (.iconst 1, 1) := by decide +kernel
theorem dX2_reads_64 : decode cX2_reads 64 = .ok (.goto 4, 3) := by decide +kernel
theorem dX2_reads_67 : decode cX2_reads 67 = .ok (.iconst 0, 1) := by decide +kernel
theorem dX2_reads_68 : decode cX2_reads 68 = .ok (.ireturn, 1) := by decide +kernel
theorem dX2_readClause_0 : decode cX2_readClause 0 = .ok (.aload_n 0, 1) := by decide +kernel
theorem dX2_readClause_1 : decode cX2_readClause 1 = .ok (.getfield 15, 3) := by decide +kernel
theorem dX2_readClause_4 : decode cX2_readClause 4 = .ok (.bipush 121, 2) := by decide +kernel
theorem dX2_readClause_6 : decode cX2_readClause 6 = .ok (.invokevirtual 32, 3) := by decide +kernel
theorem dX2_readClause_9 : decode cX2_readClause 9 = .ok (.ifCond .eq 15, 3) := by decide +kernel
theorem dX2_readClause_12 : decode cX2_readClause 12 = .ok (.aload_n 0, 1) := by decide +kernel
theorem dX2_readClause_13 : decode cX2_readClause 13 = .ok (.getfield 15, 3) := by decide +kernel
theorem dX2_readClause_16 : decode cX2_readClause 16 = .ok (.bipush 58, 2) := by decide +kernel
theorem dX2_readClause_18 : decode cX2_readClause 18 = .ok (.invokevirtual 32, 3) := by decide +kernel
theorem dX2_readClause_21 : decode cX2_readClause 21 = .ok (.ifCond .ne 5, 3) := by decide +kernel
theorem dX2_readClause_24 : decode cX2_readClause 24 = .ok (.iconst 0, 1) := by decide +kernel
theorem dX2_readClause_25 : decode cX2_readClause 25 = .ok (.ireturn, 1) := by decide +kernel
theorem dX2_readClause_26 : decode cX2_readClause 26 = .ok (.aload_n 0, 1) := by decide +kernel
theorem dX2_readClause_27 : decode cX2_readClause 27 = .ok (.getfield 15, 3) := by decide +kernel
theorem dX2_readClause_30 : decode cX2_readClause 30 = .ok (.invokevirtual 36, 3) := by decide +kernel
theorem dX2_readClause_33 : decode cX2_readClause 33 = .ok (.istore_n 1, 1) := by decide +kernel
theorem dX2_readClause_34 : decode cX2_readClause 34 = .ok (.iload_n 1, 1) := by decide +kernel
theorem dX2_readClause_35 : decode cX2_readClause 35 = .ok (.bipush 33, 2) := by decide +kernel
theorem dX2_readClause_37 : decode cX2_readClause 37 = .ok (.if_icmp .eq 13, 3) := by decide +kernel
theorem dX2_readClause_40 : decode cX2_readClause 40 = .ok (.iload_n 1, 1) := by decide +kernel
theorem dX2_readClause_41 : decode cX2_readClause 41 = .ok (.bipush 40, 2) := by decide +kernel
theorem dX2_readClause_43 : decode cX2_readClause 43 = .ok (.if_icmp .eq 7, 3) := by decide +kernel
theorem dX2_readClause_46 : decode cX2_readClause 46 = .ok (.iconst 1, 1) := by decide +kernel
theorem dX2_readClause_47 : decode cX2_readClause 47 = .ok (.goto 4, 3) := by decide +kernel
theorem dX2_readClause_50 : decode cX2_readClause 50 = .ok (.iconst 0, 1) := by decide +kernel
theorem dX2_readClause_51 : decode cX2_readClause 51 = .ok (.istore_n 2, 1) := by decide +kernel
theorem dX2_readClause_52 : decode cX2_readClause 52 = .ok (.iload_n 2, 1) := by decide +kernel
theorem dX2_readClause_53 : decode cX2_readClause 53 = .ok (.ifCond .eq 35, 3) := by decide +kernel
theorem dX2_readClause_56 : decode cX2_readClause 56 = .ok (.aload_n 0, 1) := by decide +kernel
theorem dX2_readClause_57 : decode cX2_readClause 57 = .ok (.iconst 0, 1) := by decide +kernel
theorem dX2_readClause_58 : decode cX2_readClause 58 = .ok (.invokevirtual 40, 3) := by decide +kernel
theorem dX2_readClause_61 : decode cX2_readClause 61 = .ok (.ifCond .ne 5, 3) := by decide +kernel
theorem dX2_readClause_64 : decode cX2_readClause 64 = .ok (.iconst 0, 1) := by decide +kernel
theorem dX2_readClause_65 : decode cX2_readClause 65 = .ok (.ireturn, 1) := by decide +kernel
theorem dX2_readClause_66 : decode cX2_readClause 66 = .ok (.aload_n 0, 1) := by decide +kernel
theorem dX2_readClause_67 : decode cX2_readClause 67 = .ok (.getfield 15, 3) := by decide +kernel
theorem dX2_readClause_70 : decode cX2_readClause 70 = .ok (.invokevirtual 36, 3) := by decide +kernel
theorem dX2_readClause_73 : decode cX2_readClause 73 = .ok (.invokestatic 43, 3) := by decide +kernel
theorem dX2_readClause_76 : decode cX2_readClause 76 = .ok (.ifCond .ne 12, 3) := by decide +kernel
theorem dX2_readClause_79 : decode cX2_readClause 79 = .ok (.aload_n 0, 1) := by decide +kernel
theorem dX2_readClause_80 : decode cX2_readClause 80 = .ok (.sipush 30000, 3) := by decide +kernel
theorem dX2_readClause_83 : decode cX2_readClause 83 = .ok (.invokevirtual 46, 3) := by decide +kernel
theorem dX2_readClause_86 : decode cX2_readClause 86 = .ok (.iconst 1, 1) := by decide +kernel
theorem dX2_readClause_87 : decode cX2_readClause 87 = .ok (.ireturn, 1) := by decide +kernel
theorem dX2_readClause_88 : decode cX2_readClause 88 = .ok (.aload_n 0, 1) := by decide +kernel
theorem dX2_readClause_89 : decode cX2_readClause 89 = .ok (.iconst 0, 1) := by decide +kernel
theorem dX2_readClause_90 : decode cX2_readClause 90 = .ok (.iload_n 2, 1) := by decide +kernel
theorem dX2_readClause_91 : decode cX2_readClause 91 = .ok (.invokevirtual 50, 3) := by decide +kernel
theorem dX2_readClause_94 : decode cX2_readClause 94 = .ok (.ifCond .eq 15, 3) := by decide +kernel
theorem dX2_readClause_97 : decode cX2_readClause 97 = .ok (.aload_n 0, 1) := by decide +kernel
theorem dX2_readClause_98 : decode cX2_readClause 98 = .ok (.getfield 15, 3) := by decide +kernel
theorem dX2_readClause_101 : decode cX2_readClause 101 = .ok (.bipush 63, 2) := by decide +kernel
theorem dX2_readClause_103 : decode cX2_readClause 103 = .ok (.invokevirtual 32, 3) := by decide +kernel
theorem dX2_readClause_106 : decode cX2_readClause 106 = .ok (.ifCond .ne 5, 3) := by decide +kernel
theorem dX2_readClause_109 : decode cX2_readClause 109 = .ok (.iconst 0, 1) := by decide +kernel
theorem dX2_readClause_110 : decode cX2_readClause 110 = .ok (.ireturn, 1) := by decide +kernel
theorem dX2_readClause_111 : decode cX2_readClause 111 = .ok (.aload_n 0, 1) := by decide +kernel
theorem dX2_readClause_112 : decode cX2_readClause 112 = .ok (.getfield 19, 3) := by decide +kernel
theorem dX2_readClause_115 : decode cX2_readClause 115 = .ok (.istore_n 3, 1) := by decide +kernel
theorem dX2_readClause_116 : decode cX2_readClause 116 = .ok (.aload_n 0, 1) := by decide +kernel
theorem dX2_readClause_117 : decode cX2_readClause 117 = .ok (.ldc 54, 2) := by decide +kernel
theorem dX2_readClause_119 : decode cX2_readClause 119 = .ok (.invokevirtual 46, 3) := by decide +kernel
theorem dX2_readClause_122 : decode cX2_readClause 122 = .ok (.aload_n 0, 1) := by decide +kernel
theorem dX2_readClause_123 : decode cX2_readClause 123 = .ok (.iconst 0, 1) := by decide +kernel
theorem dX2_readClause_124 : decode cX2_readClause 124 = .ok (.invokevirtual 40, 3) := by decide +kernel
theorem dX2_readClause_127 : decode cX2_readClause 127 = .ok (.ifCond .ne 5, 3) := by decide +kernel
theorem dX2_readClause_130 : decode cX2_readClause 130 = .ok (.iconst 0, 1) := by decide +kernel
theorem dX2_readClause_131 : decode cX2_readClause 131 = .ok (.ireturn, 1) := by decide +kernel
theorem dX2_readClause_132 : decode cX2_readClause 132 = .ok (.aload_n 0, 1) := by decide +kernel
theorem dX2_readClause_133 : decode cX2_readClause 133 = .ok (.sipush 30000, 3) := by decide +kernel
theorem dX2_readClause_136 : decode cX2_readClause 136 = .ok (.invokevirtual 46, 3) := by decide +kernel
theorem dX2_readClause_139 : decode cX2_readClause 139 = .ok (.aload_n 0, 1) := by decide +kernel
theorem dX2_readClause_140 : decode cX2_readClause 140 = .ok (.iload_n 3, 1) := by decide +kernel
theorem dX2_readClause_141 : decode cX2_readClause 141 = .ok (.invokevirtual 55, 3) := by decide +kernel
theorem dX2_readClause_144 : decode cX2_readClause 144 = .ok (.iconst 1, 1) := by decide +kernel
theorem dX2_readClause_145 : decode cX2_readClause 145 = .ok (.ireturn, 1) := by decide +kernel
theorem dX2_aimJump_0 : decode cX2_aimJump 0 = .ok (.iload_n 1, 1) := by decide +kernel
theorem dX2_aimJump_1 : decode cX2_aimJump 1 = .ok (.sipush 240, 3) := by decide +kernel
theorem dX2_aimJump_4 : decode cX2_aimJump 4 = .ok (.if_icmp .ge 16, 3) := by decide +kernel
theorem dX2_aimJump_7 : decode cX2_aimJump 7 = .ok (.aload_n 0, 1) := by decide +kernel
theorem dX2_aimJump_8 : decode cX2_aimJump 8 = .ok (.getfield 9, 3) := by decide +kernel
theorem dX2_aimJump_11 : decode cX2_aimJump 11 = .ok (.iload_n 1, 1) := by decide +kernel
theorem dX2_aimJump_12 : decode cX2_aimJump 12 = .ok (.ldc 54, 2) := by decide +kernel
theorem dX2_aimJump_14 : decode cX2_aimJump 14 = .ok (.aload_n 0, 1) := by decide +kernel
theorem dX2_aimJump_15 : decode cX2_aimJump 15 = .ok (.getfield 19, 3) := by decide +kernel
theorem dX2_aimJump_18 : decode cX2_aimJump 18 = .ok (.iadd, 1) := by decide +kernel
theorem dX2_aimJump_19 : decode cX2_aimJump 19 = .ok (.iastore, 1) := by decide +kernel
theorem dX2_aimJump_20 : decode cX2_aimJump 20 = .ok (.return_, 1) := by decide +kernel
theorem dX2_emit_0 : decode cX2_emit 0 = .ok (.aload_n 0, 1) := by decide +kernel
theorem dX2_emit_1 : decode cX2_emit 1 = .ok (.getfield 19, 3) := by decide +kernel
theorem dX2_emit_4 : decode cX2_emit 4 = .ok (.sipush 240, 3) := by decide +kernel
theorem dX2_emit_7 : decode cX2_emit 7 = .ok (.if_icmp .ge 23, 3) := by decide +kernel
theorem dX2_emit_10 : decode cX2_emit 10 = .ok (.aload_n 0, 1) := by decide +kernel
theorem dX2_emit_11 : decode cX2_emit 11 = .ok (.getfield 9, 3) := by decide +kernel
theorem dX2_emit_14 : decode cX2_emit 14 = .ok (.aload_n 0, 1) := by decide +kernel
theorem dX2_emit_15 : decode cX2_emit 15 = .ok (.getfield 19, 3) := by decide +kernel
theorem dX2_emit_18 : decode cX2_emit 18 = .ok (.iload_n 1, 1) := by decide +kernel
theorem dX2_emit_19 : decode cX2_emit 19 = .ok (.iastore, 1) := by decide +kernel
theorem dX2_emit_20 : decode cX2_emit 20 = .ok (.aload_n 0, 1) := by decide +kernel
theorem dX2_emit_21 : decode cX2_emit 21 = .ok (.dup, 1) := by decide +kernel
theorem dX2_emit_22 : decode cX2_emit 22 = .ok (.getfield 19, 3) := by decide +kernel
theorem dX2_emit_25 : decode cX2_emit 25 = .ok (.iconst 1, 1) := by decide +kernel
theorem dX2_emit_26 : decode cX2_emit 26 = .ok (.iadd, 1) := by decide +kernel
theorem dX2_emit_27 : decode cX2_emit 27 = .ok (.putfield 19, 3) := by decide +kernel
theorem dX2_emit_30 : decode cX2_emit 30 = .ok (.return_, 1) := by decide +kernel
theorem dX2_readCondition_0 : decode cX2_readCondition 0 = .ok (.aload_n 0, 1) := by decide +kernel
theorem dX2_readCondition_1 : decode cX2_readCondition 1 = .ok (.iload_n 1, 1) := by decide +kernel
theorem dX2_readCondition_2 : decode cX2_readCondition 2 = .ok (.iload_n 2, 1) := by decide +kernel
theorem dX2_readCondition_3 : decode cX2_readCondition 3 = .ok (.invokevirtual 58, 3) := by decide +kernel
theorem dX2_readCondition_6 : decode cX2_readCondition 6 = .ok (.ifCond .ne 5, 3) := by decide +kernel
theorem dX2_readCondition_9 : decode cX2_readCondition 9 = .ok (.iconst 0, 1) := by decide +kernel
theorem dX2_readCondition_10 : decode cX2_readCondition 10 = .ok (.ireturn, 1) := by decide +kernel
theorem dX2_readCondition_11 : decode cX2_readCondition 11 = .ok (.iconst 0, 1) := by decide +kernel
theorem dX2_readCondition_12 : decode cX2_readCondition 12 = .ok (.istore_n 3, 1) := by decide +kernel
theorem dX2_readCondition_13 : decode cX2_readCondition 13 = .ok (.iload_n 3, 1) := by decide +kernel
theorem dX2_readCondition_14 : decode cX2_readCondition 14 = .ok (.sipush 240, 3) := by decide +kernel
theorem dX2_readCondition_17 : decode cX2_readCondition 17 = .ok (.if_icmp .ge 39, 3) := by decide +kernel
theorem dX2_readCondition_20 : decode cX2_readCondition 20 = .ok (.aload_n 0, 1) := by decide +kernel
theorem dX2_readCondition_21 : decode cX2_readCondition 21 = .ok (.getfield 15, 3) := by decide +kernel
theorem dX2_readCondition_24 : decode cX2_readCondition 24 = .ok (.bipush 124, 2) := by decide +kernel
theorem dX2_readCondition_26 : decode cX2_readCondition 26 = .ok (.invokevirtual 32, 3) := by decide +kernel
theorem dX2_readCondition_29 : decode cX2_readCondition 29 = .ok (.ifCond .eq 27, 3) := by decide +kernel
theorem dX2_readCondition_32 : decode cX2_readCondition 32 = .ok (.aload_n 0, 1) := by decide +kernel
theorem dX2_readCondition_33 : decode cX2_readCondition 33 = .ok (.iload_n 1, 1) := by decide +kernel
theorem dX2_readCondition_34 : decode cX2_readCondition 34 = .ok (.iconst 0, 1) := by decide +kernel
theorem dX2_readCondition_35 : decode cX2_readCondition 35 = .ok (.invokevirtual 58, 3) := by decide +kernel
theorem dX2_readCondition_38 : decode cX2_readCondition 38 = .ok (.ifCond .ne 5, 3) := by decide +kernel
theorem dX2_readCondition_41 : decode cX2_readCondition 41 = .ok (.iconst 0, 1) := by decide +kernel
theorem dX2_readCondition_42 : decode cX2_readCondition 42 = .ok (.ireturn, 1) := by decide +kernel
theorem dX2_readCondition_43 : decode cX2_readCondition 43 = .ok (.aload_n 0, 1) := by decide +kernel
theorem dX2_readCondition_44 : decode cX2_readCondition 44 = .ok (.sipush 20124, 3) := by decide +kernel
theorem dX2_readCondition_47 : decode cX2_readCondition 47 = .ok (.invokevirtual 46, 3) := by decide +kernel
theorem dX2_readCondition_50 : decode cX2_readCondition 50 = .ok (.iinc 3 1, 3) := by decide +kernel
theorem dX2_readCondition_53 : decode cX2_readCondition 53 = .ok (.goto (-40), 3) := by decide +kernel
theorem dX2_readCondition_56 : decode cX2_readCondition 56 = .ok (.iconst 1, 1) := by decide +kernel
theorem dX2_readCondition_57 : decode cX2_readCondition 57 = .ok (.ireturn, 1) := by decide +kernel
theorem dX2_readTruth_0 : decode cX2_readTruth 0 = .ok (.iload_n 2, 1) := by decide +kernel
theorem dX2_readTruth_1 : decode cX2_readTruth 1 = .ok (.ifCond .eq 11, 3) := by decide +kernel
theorem dX2_readTruth_4 : decode cX2_readTruth 4 = .ok (.aload_n 0, 1) := by decide +kernel
theorem dX2_readTruth_5 : decode cX2_readTruth 5 = .ok (.iload_n 1, 1) := by decide +kernel
theorem dX2_readTruth_6 : decode cX2_readTruth 6 = .ok (.invokevirtual 61, 3) := by decide +kernel
theorem dX2_readTruth_9 : decode cX2_readTruth 9 = .ok (.goto 8, 3) := by decide +kernel
theorem dX2_readTruth_12 : decode cX2_readTruth 12 = .ok (.aload_n 0, 1) := by decide +kernel
theorem dX2_readTruth_13 : decode cX2_readTruth 13 = .ok (.iload_n 1, 1) := by decide +kernel
theorem dX2_readTruth_14 : decode cX2_readTruth 14 = .ok (.invokevirtual 64, 3) := by decide +kernel
theorem dX2_readTruth_17 : decode cX2_readTruth 17 = .ok (.istore_n 3, 1) := by decide +kernel
theorem dX2_readTruth_18 : decode cX2_readTruth 18 = .ok (.iload_n 3, 1) := by decide +kernel
theorem dX2_readTruth_19 : decode cX2_readTruth 19 = .ok (.ifCond .ne 5, 3) := by decide +kernel
theorem dX2_readTruth_22 : decode cX2_readTruth 22 = .ok (.iconst 0, 1) := by decide +kernel
theorem dX2_readTruth_23 : decode cX2_readTruth 23 = .ok (.ireturn, 1) := by decide +kernel
theorem dX2_readTruth_24 : decode cX2_readTruth 24 = .ok (.iconst 0, 1) := by decide +kernel
theorem dX2_readTruth_25 : decode cX2_readTruth 25 = .ok (.istore 4, 2) := by decide +kernel
theorem dX2_readTruth_27 : decode cX2_readTruth 27 = .ok (.iload 4, 2) := by decide +kernel
theorem dX2_readTruth_29 : decode cX2_readTruth 29 = .ok (.sipush 240, 3) := by decide +kernel
theorem dX2_readTruth_32 : decode cX2_readTruth 32 = .ok (.if_icmp .ge 38, 3) := by decide +kernel
theorem dX2_readTruth_35 : decode cX2_readTruth 35 = .ok (.aload_n 0, 1) := by decide +kernel
theorem dX2_readTruth_36 : decode cX2_readTruth 36 = .ok (.getfield 15, 3) := by decide +kernel
theorem dX2_readTruth_39 : decode cX2_readTruth 39 = .ok (.bipush 38, 2) := by decide +kernel
theorem dX2_readTruth_41 : decode cX2_readTruth 41 = .ok (.invokevirtual 32, 3) := by decide +kernel
theorem dX2_readTruth_44 : decode cX2_readTruth 44 = .ok (.ifCond .eq 26, 3) := by decide +kernel
theorem dX2_readTruth_47 : decode cX2_readTruth 47 = .ok (.aload_n 0, 1) := by decide +kernel
theorem dX2_readTruth_48 : decode cX2_readTruth 48 = .ok (.iload_n 1, 1) := by decide +kernel
theorem dX2_readTruth_49 : decode cX2_readTruth 49 = .ok (.invokevirtual 64, 3) := by decide +kernel
theorem dX2_readTruth_52 : decode cX2_readTruth 52 = .ok (.ifCond .ne 5, 3) := by decide +kernel
theorem dX2_readTruth_55 : decode cX2_readTruth 55 = .ok (.iconst 0, 1) := by decide +kernel
theorem dX2_readTruth_56 : decode cX2_readTruth 56 = .ok (.ireturn, 1) := by decide +kernel
theorem dX2_readTruth_57 : decode cX2_readTruth 57 = .ok (.aload_n 0, 1) := by decide +kernel
theorem dX2_readTruth_58 : decode cX2_readTruth 58 = .ok (.sipush 20038, 3) := by decide +kernel
theorem dX2_readTruth_61 : decode cX2_readTruth 61 = .ok (.invokevirtual 46, 3) := by decide +kernel
theorem dX2_readTruth_64 : decode cX2_readTruth 64 = .ok (.iinc 4 1, 3) := by decide +kernel
theorem dX2_readTruth_67 : decode cX2_readTruth 67 = .ok (.goto (-40), 3) := by decide +kernel
theorem dX2_readTruth_70 : decode cX2_readTruth 70 = .ok (.iconst 1, 1) := by decide +kernel
theorem dX2_readTruth_71 : decode cX2_readTruth 71 = .ok (.ireturn, 1) := by decide +kernel
theorem dX2_readUnit_0 : decode cX2_readUnit 0 = .ok (.aload_n 0, 1) := by decide +kernel
theorem dX2_readUnit_1 : decode cX2_readUnit 1 = .ok (.getfield 15, 3) := by decide +kernel
theorem dX2_readUnit_4 : decode cX2_readUnit 4 = .ok (.invokevirtual 36, 3) := by decide +kernel
theorem dX2_readUnit_7 : decode cX2_readUnit 7 = .ok (.istore_n 2, 1) := by decide +kernel
theorem dX2_readUnit_8 : decode cX2_readUnit 8 = .ok (.iload_n 2, 1) := by decide +kernel
theorem dX2_readUnit_9 : decode cX2_readUnit 9 = .ok (.bipush 33, 2) := by decide +kernel
theorem dX2_readUnit_11 : decode cX2_readUnit 11 = .ok (.if_icmp .eq 31, 3) := by decide +kernel
theorem dX2_readUnit_14 : decode cX2_readUnit 14 = .ok (.iload_n 2, 1) := by decide +kernel
theorem dX2_readUnit_15 : decode cX2_readUnit 15 = .ok (.bipush 40, 2) := by decide +kernel
theorem dX2_readUnit_17 : decode cX2_readUnit 17 = .ok (.if_icmp .eq 25, 3) := by decide +kernel
theorem dX2_readUnit_20 : decode cX2_readUnit 20 = .ok (.aload_n 0, 1) := by decide +kernel
theorem dX2_readUnit_21 : decode cX2_readUnit 21 = .ok (.iload_n 1, 1) := by decide +kernel
theorem dX2_readUnit_22 : decode cX2_readUnit 22 = .ok (.invokevirtual 40, 3) := by decide +kernel
theorem dX2_readUnit_25 : decode cX2_readUnit 25 = .ok (.ifCond .eq 15, 3) := by decide +kernel
theorem dX2_readUnit_28 : decode cX2_readUnit 28 = .ok (.aload_n 0, 1) := by decide +kernel
theorem dX2_readUnit_29 : decode cX2_readUnit 29 = .ok (.iload_n 1, 1) := by decide +kernel
theorem dX2_readUnit_30 : decode cX2_readUnit 30 = .ok (.invokevirtual 61, 3) := by decide +kernel
theorem dX2_readUnit_33 : decode cX2_readUnit 33 = .ok (.ifCond .eq 7, 3) := by decide +kernel
theorem dX2_readUnit_36 : decode cX2_readUnit 36 = .ok (.iconst 1, 1) := by decide +kernel
theorem dX2_readUnit_37 : decode cX2_readUnit 37 = .ok (.goto 4, 3) := by decide +kernel
theorem dX2_readUnit_40 : decode cX2_readUnit 40 = .ok (.iconst 0, 1) := by decide +kernel
theorem dX2_readUnit_41 : decode cX2_readUnit 41 = .ok (.ireturn, 1) := by decide +kernel
theorem dX2_readUnit_42 : decode cX2_readUnit 42 = .ok (.iload_n 1, 1) := by decide +kernel
theorem dX2_readUnit_43 : decode cX2_readUnit 43 = .ok (.bipush 6, 2) := by decide +kernel
theorem dX2_readUnit_45 : decode cX2_readUnit 45 = .ok (.if_icmp .lt 5, 3) := by decide +kernel
theorem dX2_readUnit_48 : decode cX2_readUnit 48 = .ok (.iconst 0, 1) := by decide +kernel
theorem dX2_readUnit_49 : decode cX2_readUnit 49 = .ok (.ireturn, 1) := by decide +kernel
theorem dX2_readUnit_50 : decode cX2_readUnit 50 = .ok (.aload_n 0, 1) := by decide +kernel
theorem dX2_readUnit_51 : decode cX2_readUnit 51 = .ok (.getfield 15, 3) := by decide +kernel
theorem dX2_readUnit_54 : decode cX2_readUnit 54 = .ok (.invokevirtual 67, 3) := by decide +kernel
theorem dX2_readUnit_57 : decode cX2_readUnit 57 = .ok (.iload_n 2, 1) := by decide +kernel
theorem dX2_readUnit_58 : decode cX2_readUnit 58 = .ok (.bipush 40, 2) := by decide +kernel
theorem dX2_readUnit_60 : decode cX2_readUnit 60 = .ok (.if_icmp .ne 32, 3) := by decide +kernel
theorem dX2_readUnit_63 : decode cX2_readUnit 63 = .ok (.aload_n 0, 1) := by decide +kernel
theorem dX2_readUnit_64 : decode cX2_readUnit 64 = .ok (.iload_n 1, 1) := by decide +kernel
theorem dX2_readUnit_65 : decode cX2_readUnit 65 = .ok (.iconst 1, 1) := by decide +kernel
theorem dX2_readUnit_66 : decode cX2_readUnit 66 = .ok (.iadd, 1) := by decide +kernel
theorem dX2_readUnit_67 : decode cX2_readUnit 67 = .ok (.iconst 0, 1) := by decide +kernel
theorem dX2_readUnit_68 : decode cX2_readUnit 68 = .ok (.invokevirtual 50, 3) := by decide +kernel
theorem dX2_readUnit_71 : decode cX2_readUnit 71 = .ok (.ifCond .eq 19, 3) := by decide +kernel
theorem dX2_readUnit_74 : decode cX2_readUnit 74 = .ok (.aload_n 0, 1) := by decide +kernel
theorem dX2_readUnit_75 : decode cX2_readUnit 75 = .ok (.getfield 15, 3) := by decide +kernel
theorem dX2_readUnit_78 : decode cX2_readUnit 78 = .ok (.bipush 41, 2) := by decide +kernel
theorem dX2_readUnit_80 : decode cX2_readUnit 80 = .ok (.invokevirtual 32, 3) := by decide +kernel
theorem dX2_readUnit_83 : decode cX2_readUnit 83 = .ok (.ifCond .eq 7, 3) := by decide +kernel
theorem dX2_readUnit_86 : decode cX2_readUnit 86 = .ok (.iconst 1, 1) := by decide +kernel
theorem dX2_readUnit_87 : decode cX2_readUnit 87 = .ok (.goto 4, 3) := by decide +kernel
theorem dX2_readUnit_90 : decode cX2_readUnit 90 = .ok (.iconst 0, 1) := by decide +kernel
theorem dX2_readUnit_91 : decode cX2_readUnit 91 = .ok (.ireturn, 1) := by decide +kernel
theorem dX2_readUnit_92 : decode cX2_readUnit 92 = .ok (.aload_n 0, 1) := by decide +kernel
theorem dX2_readUnit_93 : decode cX2_readUnit 93 = .ok (.iload_n 1, 1) := by decide +kernel
theorem dX2_readUnit_94 : decode cX2_readUnit 94 = .ok (.iconst 1, 1) := by decide +kernel
theorem dX2_readUnit_95 : decode cX2_readUnit 95 = .ok (.iadd, 1) := by decide +kernel
theorem dX2_readUnit_96 : decode cX2_readUnit 96 = .ok (.invokevirtual 64, 3) := by decide +kernel
theorem dX2_readUnit_99 : decode cX2_readUnit 99 = .ok (.ifCond .ne 5, 3) := by decide +kernel
theorem dX2_readUnit_102 : decode cX2_readUnit 102 = .ok (.iconst 0, 1) := by decide +kernel
theorem dX2_readUnit_103 : decode cX2_readUnit 103 = .ok (.ireturn, 1) := by decide +kernel
theorem dX2_readUnit_104 : decode cX2_readUnit 104 = .ok (.aload_n 0, 1) := by decide +kernel
theorem dX2_readUnit_105 : decode cX2_readUnit 105 = .ok (.sipush 20033, 3) := by decide +kernel
theorem dX2_readUnit_108 : decode cX2_readUnit 108 = .ok (.invokevirtual 46, 3) := by decide +kernel
theorem dX2_readUnit_111 : decode cX2_readUnit 111 = .ok (.iconst 1, 1) := by decide +kernel
theorem dX2_readUnit_112 : decode cX2_readUnit 112 = .ok (.ireturn, 1) := by decide +kernel
theorem dX2_readRightOfComparison_0 : decode cX2_readRightOfComparison 0 = .ok (.aload_n 0, 1) := by decide +kernel
theorem dX2_readRightOfComparison_1 : decode cX2_readRightOfComparison 1 = .ok (.getfield 15, 3) := by decide +kernel
theorem dX2_readRightOfComparison_4 : decode cX2_readRightOfComparison 4 = .ok (.invokevirtual 36, 3) := by decide +kernel
theorem dX2_readRightOfComparison_7 : decode cX2_readRightOfComparison 7 = .ok (.istore_n 2, 1) := by decide +kernel
theorem dX2_readRightOfComparison_8 : decode cX2_readRightOfComparison 8 = .ok (.iload_n 2, 1) := by decide +kernel
theorem dX2_readRightOfComparison_9 : decode cX2_readRightOfComparison 9 = .ok (.invokestatic 43, 3) := by decide +kernel
theorem dX2_readRightOfComparison_12 : decode cX2_readRightOfComparison 12 = .ok (.ifCond .ne 5, 3) := by decide +kernel
theorem dX2_readRightOfComparison_15 : decode cX2_readRightOfComparison 15 = .ok (.iconst 0, 1) := by decide +kernel
theorem dX2_readRightOfComparison_16 : decode cX2_readRightOfComparison 16 = .ok (.ireturn, 1) := by decide +kernel
theorem dX2_readRightOfComparison_17 : decode cX2_readRightOfComparison 17 = .ok (.aload_n 0, 1) := by decide +kernel
theorem dX2_readRightOfComparison_18 : decode cX2_readRightOfComparison 18 = .ok (.getfield 15, 3) := by decide +kernel
theorem dX2_readRightOfComparison_21 : decode cX2_readRightOfComparison 21 = .ok (.invokevirtual 67, 3) := by decide +kernel
theorem dX2_readRightOfComparison_24 : decode cX2_readRightOfComparison 24 = .ok (.aload_n 0, 1) := by decide +kernel
theorem dX2_readRightOfComparison_25 : decode cX2_readRightOfComparison 25 = .ok (.iload_n 1, 1) := by decide +kernel
theorem dX2_readRightOfComparison_26 : decode cX2_readRightOfComparison 26 = .ok (.invokevirtual 40, 3) := by decide +kernel
theorem dX2_readRightOfComparison_29 : decode cX2_readRightOfComparison 29 = .ok (.ifCond .ne 5, 3) := by decide +kernel
theorem dX2_readRightOfComparison_32 : decode cX2_readRightOfComparison 32 = .ok (.iconst 0, 1) := by decide +kernel
theorem dX2_readRightOfComparison_33 : decode cX2_readRightOfComparison 33 = .ok (.ireturn, 1) := by decide +kernel
theorem dX2_readRightOfComparison_34 : decode cX2_readRightOfComparison 34 = .ok (.aload_n 0, 1) := by decide +kernel
theorem dX2_readRightOfComparison_35 : decode cX2_readRightOfComparison 35 = .ok (.sipush 20000, 3) := by decide +kernel
theorem dX2_readRightOfComparison_38 : decode cX2_readRightOfComparison 38 = .ok (.iload_n 2, 1) := by decide +kernel
theorem dX2_readRightOfComparison_39 : decode cX2_readRightOfComparison 39 = .ok (.iadd, 1) := by decide +kernel
theorem dX2_readRightOfComparison_40 : decode cX2_readRightOfComparison 40 = .ok (.invokevirtual 46, 3) := by decide +kernel
theorem dX2_readRightOfComparison_43 : decode cX2_readRightOfComparison 43 = .ok (.iconst 1, 1) := by decide +kernel
theorem dX2_readRightOfComparison_44 : decode cX2_readRightOfComparison 44 = .ok (.ireturn, 1) := by decide +kernel
theorem dX2_readSum_0 : decode cX2_readSum 0 = .ok (.aload_n 0, 1) := by decide +kernel
theorem dX2_readSum_1 : decode cX2_readSum 1 = .ok (.iload_n 1, 1) := by decide +kernel
theorem dX2_readSum_2 : decode cX2_readSum 2 = .ok (.invokevirtual 70, 3) := by decide +kernel
theorem dX2_readSum_5 : decode cX2_readSum 5 = .ok (.ifCond .ne 5, 3) := by decide +kernel
theorem dX2_readSum_8 : decode cX2_readSum 8 = .ok (.iconst 0, 1) := by decide +kernel
theorem dX2_readSum_9 : decode cX2_readSum 9 = .ok (.ireturn, 1) := by decide +kernel
theorem dX2_readSum_10 : decode cX2_readSum 10 = .ok (.iconst 0, 1) := by decide +kernel
theorem dX2_readSum_11 : decode cX2_readSum 11 = .ok (.istore_n 2, 1) := by decide +kernel
theorem dX2_readSum_12 : decode cX2_readSum 12 = .ok (.iload_n 2, 1) := by decide +kernel
theorem dX2_readSum_13 : decode cX2_readSum 13 = .ok (.sipush 240, 3) := by decide +kernel
theorem dX2_readSum_16 : decode cX2_readSum 16 = .ok (.if_icmp .ge 57, 3) := by decide +kernel
theorem dX2_readSum_19 : decode cX2_readSum 19 = .ok (.aload_n 0, 1) := by decide +kernel
theorem dX2_readSum_20 : decode cX2_readSum 20 = .ok (.getfield 15, 3) := by decide +kernel
theorem dX2_readSum_23 : decode cX2_readSum 23 = .ok (.invokevirtual 36, 3) := by decide +kernel
theorem dX2_readSum_26 : decode cX2_readSum 26 = .ok (.istore_n 3, 1) := by decide +kernel
theorem dX2_readSum_27 : decode cX2_readSum 27 = .ok (.iload_n 3, 1) := by decide +kernel
theorem dX2_readSum_28 : decode cX2_readSum 28 = .ok (.bipush 43, 2) := by decide +kernel
theorem dX2_readSum_30 : decode cX2_readSum 30 = .ok (.if_icmp .eq 11, 3) := by decide +kernel
theorem dX2_readSum_33 : decode cX2_readSum 33 = .ok (.iload_n 3, 1) := by decide +kernel
theorem dX2_readSum_34 : decode cX2_readSum 34 = .ok (.bipush 45, 2) := by decide +kernel
theorem dX2_readSum_36 : decode cX2_readSum 36 = .ok (.if_icmp .eq 5, 3) := by decide +kernel
theorem dX2_readSum_39 : decode cX2_readSum 39 = .ok (.iconst 1, 1) := by decide +kernel
theorem dX2_readSum_40 : decode cX2_readSum 40 = .ok (.ireturn, 1) := by decide +kernel
theorem dX2_readSum_41 : decode cX2_readSum 41 = .ok (.aload_n 0, 1) := by decide +kernel
theorem dX2_readSum_42 : decode cX2_readSum 42 = .ok (.getfield 15, 3) := by decide +kernel
theorem dX2_readSum_45 : decode cX2_readSum 45 = .ok (.invokevirtual 67, 3) := by decide +kernel
theorem dX2_readSum_48 : decode cX2_readSum 48 = .ok (.aload_n 0, 1) := by decide +kernel
theorem dX2_readSum_49 : decode cX2_readSum 49 = .ok (.iload_n 1, 1) := by decide +kernel
theorem dX2_readSum_50 : decode cX2_readSum 50 = .ok (.invokevirtual 70, 3) := by decide +kernel
theorem dX2_readSum_53 : decode cX2_readSum 53 = .ok (.ifCond .ne 5, 3) := by decide +kernel
theorem dX2_readSum_56 : decode cX2_readSum 56 = .ok (.iconst 0, 1) := by decide +kernel
theorem dX2_readSum_57 : decode cX2_readSum 57 = .ok (.ireturn, 1) := by decide +kernel
theorem dX2_readSum_58 : decode cX2_readSum 58 = .ok (.aload_n 0, 1) := by decide +kernel
theorem dX2_readSum_59 : decode cX2_readSum 59 = .ok (.sipush 20000, 3) := by decide +kernel
theorem dX2_readSum_62 : decode cX2_readSum 62 = .ok (.iload_n 3, 1) := by decide +kernel
theorem dX2_readSum_63 : decode cX2_readSum 63 = .ok (.iadd, 1) := by decide +kernel
theorem dX2_readSum_64 : decode cX2_readSum 64 = .ok (.invokevirtual 46, 3) := by decide +kernel
theorem dX2_readSum_67 : decode cX2_readSum 67 = .ok (.iinc 2 1, 3) := by decide +kernel
theorem dX2_readSum_70 : decode cX2_readSum 70 = .ok (.goto (-58), 3) := by decide +kernel
theorem dX2_readSum_73 : decode cX2_readSum 73 = .ok (.iconst 1, 1) := by decide +kernel
theorem dX2_readSum_74 : decode cX2_readSum 74 = .ok (.ireturn, 1) := by decide +kernel
theorem dX2_readTerm_0 : decode cX2_readTerm 0 = .ok (.aload_n 0, 1) := by decide +kernel
theorem dX2_readTerm_1 : decode cX2_readTerm 1 = .ok (.iload_n 1, 1) := by decide +kernel
theorem dX2_readTerm_2 : decode cX2_readTerm 2 = .ok (.invokevirtual 73, 3) := by decide +kernel
theorem dX2_readTerm_5 : decode cX2_readTerm 5 = .ok (.ifCond .ne 5, 3) := by decide +kernel
theorem dX2_readTerm_8 : decode cX2_readTerm 8 = .ok (.iconst 0, 1) := by decide +kernel
theorem dX2_readTerm_9 : decode cX2_readTerm 9 = .ok (.ireturn, 1) := by decide +kernel
theorem dX2_readTerm_10 : decode cX2_readTerm 10 = .ok (.iconst 0, 1) := by decide +kernel
theorem dX2_readTerm_11 : decode cX2_readTerm 11 = .ok (.istore_n 2, 1) := by decide +kernel
theorem dX2_readTerm_12 : decode cX2_readTerm 12 = .ok (.iload_n 2, 1) := by decide +kernel
theorem dX2_readTerm_13 : decode cX2_readTerm 13 = .ok (.sipush 240, 3) := by decide +kernel
theorem dX2_readTerm_16 : decode cX2_readTerm 16 = .ok (.if_icmp .ge 57, 3) := by decide +kernel
theorem dX2_readTerm_19 : decode cX2_readTerm 19 = .ok (.aload_n 0, 1) := by decide +kernel
theorem dX2_readTerm_20 : decode cX2_readTerm 20 = .ok (.getfield 15, 3) := by decide +kernel
theorem dX2_readTerm_23 : decode cX2_readTerm 23 = .ok (.invokevirtual 36, 3) := by decide +kernel
theorem dX2_readTerm_26 : decode cX2_readTerm 26 = .ok (.istore_n 3, 1) := by decide +kernel
theorem dX2_readTerm_27 : decode cX2_readTerm 27 = .ok (.iload_n 3, 1) := by decide +kernel
theorem dX2_readTerm_28 : decode cX2_readTerm 28 = .ok (.bipush 42, 2) := by decide +kernel
theorem dX2_readTerm_30 : decode cX2_readTerm 30 = .ok (.if_icmp .eq 11, 3) := by decide +kernel
theorem dX2_readTerm_33 : decode cX2_readTerm 33 = .ok (.iload_n 3, 1) := by decide +kernel
theorem dX2_readTerm_34 : decode cX2_readTerm 34 = .ok (.bipush 47, 2) := by decide +kernel
theorem dX2_readTerm_36 : decode cX2_readTerm 36 = .ok (.if_icmp .eq 5, 3) := by decide +kernel
theorem dX2_readTerm_39 : decode cX2_readTerm 39 = .ok (.iconst 1, 1) := by decide +kernel
theorem dX2_readTerm_40 : decode cX2_readTerm 40 = .ok (.ireturn, 1) := by decide +kernel
theorem dX2_readTerm_41 : decode cX2_readTerm 41 = .ok (.aload_n 0, 1) := by decide +kernel
theorem dX2_readTerm_42 : decode cX2_readTerm 42 = .ok (.getfield 15, 3) := by decide +kernel
theorem dX2_readTerm_45 : decode cX2_readTerm 45 = .ok (.invokevirtual 67, 3) := by decide +kernel
theorem dX2_readTerm_48 : decode cX2_readTerm 48 = .ok (.aload_n 0, 1) := by decide +kernel
theorem dX2_readTerm_49 : decode cX2_readTerm 49 = .ok (.iload_n 1, 1) := by decide +kernel
theorem dX2_readTerm_50 : decode cX2_readTerm 50 = .ok (.invokevirtual 73, 3) := by decide +kernel
theorem dX2_readTerm_53 : decode cX2_readTerm 53 = .ok (.ifCond .ne 5, 3) := by decide +kernel
theorem dX2_readTerm_56 : decode cX2_readTerm 56 = .ok (.iconst 0, 1) := by decide +kernel
theorem dX2_readTerm_57 : decode cX2_readTerm 57 = .ok (.ireturn, 1) := by decide +kernel
theorem dX2_readTerm_58 : decode cX2_readTerm 58 = .ok (.aload_n 0, 1) := by decide +kernel
theorem dX2_readTerm_59 : decode cX2_readTerm 59 = .ok (.sipush 20000, 3) := by decide +kernel
theorem dX2_readTerm_62 : decode cX2_readTerm 62 = .ok (.iload_n 3, 1) := by decide +kernel
theorem dX2_readTerm_63 : decode cX2_readTerm 63 = .ok (.iadd, 1) := by decide +kernel
theorem dX2_readTerm_64 : decode cX2_readTerm 64 = .ok (.invokevirtual 46, 3) := by decide +kernel
theorem dX2_readTerm_67 : decode cX2_readTerm 67 = .ok (.iinc 2 1, 3) := by decide +kernel
theorem dX2_readTerm_70 : decode cX2_readTerm 70 = .ok (.goto (-58), 3) := by decide +kernel
theorem dX2_readTerm_73 : decode cX2_readTerm 73 = .ok (.iconst 1, 1) := by decide +kernel
theorem dX2_readTerm_74 : decode cX2_readTerm 74 = .ok (.ireturn, 1) := by decide +kernel
theorem dX2_readAtom_0 : decode cX2_readAtom 0 = .ok (.aload_n 0, 1) := by decide +kernel
theorem dX2_readAtom_1 : decode cX2_readAtom 1 = .ok (.getfield 15, 3) := by decide +kernel
theorem dX2_readAtom_4 : decode cX2_readAtom 4 = .ok (.invokevirtual 36, 3) := by decide +kernel
theorem dX2_readAtom_7 : decode cX2_readAtom 7 = .ok (.istore_n 2, 1) := by decide +kernel
theorem dX2_readAtom_8 : decode cX2_readAtom 8 = .ok (.iload_n 2, 1) := by decide +kernel
theorem dX2_readAtom_9 : decode cX2_readAtom 9 = .ok (.bipush 91, 2) := by decide +kernel
theorem dX2_readAtom_11 : decode cX2_readAtom 11 = .ok (.if_icmp .ne 46, 3) := by decide +kernel
theorem dX2_readAtom_14 : decode cX2_readAtom 14 = .ok (.iload_n 1, 1) := by decide +kernel
theorem dX2_readAtom_15 : decode cX2_readAtom 15 = .ok (.bipush 6, 2) := by decide +kernel
theorem dX2_readAtom_17 : decode cX2_readAtom 17 = .ok (.if_icmp .lt 5, 3) := by decide +kernel
theorem dX2_readAtom_20 : decode cX2_readAtom 20 = .ok (.iconst 0, 1) := by decide +kernel
theorem dX2_readAtom_21 : decode cX2_readAtom 21 = .ok (.ireturn, 1) := by decide +kernel
theorem dX2_readAtom_22 : decode cX2_readAtom 22 = .ok (.aload_n 0, 1) := by decide +kernel
theorem dX2_readAtom_23 : decode cX2_readAtom 23 = .ok (.getfield 15, 3) := by decide +kernel
theorem dX2_readAtom_26 : decode cX2_readAtom 26 = .ok (.invokevirtual 67, 3) := by decide +kernel
theorem dX2_readAtom_29 : decode cX2_readAtom 29 = .ok (.aload_n 0, 1) := by decide +kernel
theorem dX2_readAtom_30 : decode cX2_readAtom 30 = .ok (.iload_n 1, 1) := by decide +kernel
theorem dX2_readAtom_31 : decode cX2_readAtom 31 = .ok (.iconst 1, 1) := by decide +kernel
theorem dX2_readAtom_32 : decode cX2_readAtom 32 = .ok (.iadd, 1) := by decide +kernel
theorem dX2_readAtom_33 : decode cX2_readAtom 33 = .ok (.invokevirtual 40, 3) := by decide +kernel
theorem dX2_readAtom_36 : decode cX2_readAtom 36 = .ok (.ifCond .eq 19, 3) := by decide +kernel
theorem dX2_readAtom_39 : decode cX2_readAtom 39 = .ok (.aload_n 0, 1) := by decide +kernel
theorem dX2_readAtom_40 : decode cX2_readAtom 40 = .ok (.getfield 15, 3) := by decide +kernel
theorem dX2_readAtom_43 : decode cX2_readAtom 43 = .ok (.bipush 93, 2) := by decide +kernel
theorem dX2_readAtom_45 : decode cX2_readAtom 45 = .ok (.invokevirtual 32, 3) := by decide +kernel
theorem dX2_readAtom_48 : decode cX2_readAtom 48 = .ok (.ifCond .eq 7, 3) := by decide +kernel
theorem dX2_readAtom_51 : decode cX2_readAtom 51 = .ok (.iconst 1, 1) := by decide +kernel
theorem dX2_readAtom_52 : decode cX2_readAtom 52 = .ok (.goto 4, 3) := by decide +kernel
theorem dX2_readAtom_55 : decode cX2_readAtom 55 = .ok (.iconst 0, 1) := by decide +kernel
theorem dX2_readAtom_56 : decode cX2_readAtom 56 = .ok (.ireturn, 1) := by decide +kernel
theorem dX2_readAtom_57 : decode cX2_readAtom 57 = .ok (.iconst 0, 1) := by decide +kernel
theorem dX2_readAtom_58 : decode cX2_readAtom 58 = .ok (.istore_n 3, 1) := by decide +kernel
theorem dX2_readAtom_59 : decode cX2_readAtom 59 = .ok (.iload_n 3, 1) := by decide +kernel
theorem dX2_readAtom_60 : decode cX2_readAtom 60 = .ok (.getstatic 76, 3) := by decide +kernel
theorem dX2_readAtom_63 : decode cX2_readAtom 63 = .ok (.arraylength, 1) := by decide +kernel
theorem dX2_readAtom_64 : decode cX2_readAtom 64 = .ok (.if_icmp .ge 36, 3) := by decide +kernel
theorem dX2_readAtom_67 : decode cX2_readAtom 67 = .ok (.getstatic 76, 3) := by decide +kernel
theorem dX2_readAtom_70 : decode cX2_readAtom 70 = .ok (.iload_n 3, 1) := by decide +kernel
theorem dX2_readAtom_71 : decode cX2_readAtom 71 = .ok (.iaload, 1) := by decide +kernel
theorem dX2_readAtom_72 : decode cX2_readAtom 72 = .ok (.iload_n 2, 1) := by decide +kernel
theorem dX2_readAtom_73 : decode cX2_readAtom 73 = .ok (.if_icmp .ne 21, 3) := by decide +kernel
theorem dX2_readAtom_76 : decode cX2_readAtom 76 = .ok (.aload_n 0, 1) := by decide +kernel
theorem dX2_readAtom_77 : decode cX2_readAtom 77 = .ok (.getfield 15, 3) := by decide +kernel
theorem dX2_readAtom_80 : decode cX2_readAtom 80 = .ok (.invokevirtual 67, 3) := by decide +kernel
theorem dX2_readAtom_83 : decode cX2_readAtom 83 = .ok (.aload_n 0, 1) := by decide +kernel
theorem dX2_readAtom_84 : decode cX2_readAtom 84 = .ok (.sipush 10000, 3) := by decide +kernel
theorem dX2_readAtom_87 : decode cX2_readAtom 87 = .ok (.iload_n 3, 1) := by decide +kernel
theorem dX2_readAtom_88 : decode cX2_readAtom 88 = .ok (.iadd, 1) := by decide +kernel
theorem dX2_readAtom_89 : decode cX2_readAtom 89 = .ok (.invokevirtual 46, 3) := by decide +kernel
theorem dX2_readAtom_92 : decode cX2_readAtom 92 = .ok (.iconst 1, 1) := by decide +kernel
theorem dX2_readAtom_93 : decode cX2_readAtom 93 = .ok (.ireturn, 1) := by decide +kernel
theorem dX2_readAtom_94 : decode cX2_readAtom 94 = .ok (.iinc 3 1, 3) := by decide +kernel
theorem dX2_readAtom_97 : decode cX2_readAtom 97 = .ok (.goto (-38), 3) := by decide +kernel
theorem dX2_readAtom_100 : decode cX2_readAtom 100 = .ok (.aload_n 0, 1) := by decide +kernel
theorem dX2_readAtom_101 : decode cX2_readAtom 101 = .ok (.getfield 15, 3) := by decide +kernel
theorem dX2_readAtom_104 : decode cX2_readAtom 104 = .ok (.iconst 4, 1) := by decide +kernel
theorem dX2_readAtom_105 : decode cX2_readAtom 105 = .ok (.invokevirtual 79, 3) := by decide +kernel
theorem dX2_readAtom_108 : decode cX2_readAtom 108 = .ok (.istore_n 3, 1) := by decide +kernel
theorem dX2_readAtom_109 : decode cX2_readAtom 109 = .ok (.iload_n 3, 1) := by decide +kernel
theorem dX2_readAtom_110 : decode cX2_readAtom 110 = .ok (.iconst (-1), 1) := by decide +kernel
theorem dX2_readAtom_111 : decode cX2_readAtom 111 = .ok (.if_icmp .ne 5, 3) := by decide +kernel
theorem dX2_readAtom_114 : decode cX2_readAtom 114 = .ok (.iconst 0, 1) := by decide +kernel
theorem dX2_readAtom_115 : decode cX2_readAtom 115 = .ok (.ireturn, 1) := by decide +kernel
theorem dX2_readAtom_116 : decode cX2_readAtom 116 = .ok (.aload_n 0, 1) := by decide +kernel
theorem dX2_readAtom_117 : decode cX2_readAtom 117 = .ok (.iload_n 3, 1) := by decide +kernel
theorem dX2_readAtom_118 : decode cX2_readAtom 118 = .ok (.invokevirtual 46, 3) := by decide +kernel
theorem dX2_readAtom_121 : decode cX2_readAtom 121 = .ok (.iconst 1, 1) := by decide +kernel
theorem dX2_readAtom_122 : decode cX2_readAtom 122 = .ok (.ireturn, 1) := by decide +kernel
theorem dX2_isComparison_0 : decode cX2_isComparison 0 = .ok (.iload_n 0, 1) := by decide +kernel
theorem dX2_isComparison_1 : decode cX2_isComparison 1 = .ok (.bipush 61, 2) := by decide +kernel
theorem dX2_isComparison_3 : decode cX2_isComparison 3 = .ok (.if_icmp .eq 15, 3) := by decide +kernel
theorem dX2_isComparison_6 : decode cX2_isComparison 6 = .ok (.iload_n 0, 1) := by decide +kernel
theorem dX2_isComparison_7 : decode cX2_isComparison 7 = .ok (.bipush 60, 2) := by decide +kernel
theorem dX2_isComparison_9 : decode cX2_isComparison 9 = .ok (.if_icmp .eq 9, 3) := by decide +kernel
theorem dX2_isComparison_12 : decode cX2_isComparison 12 = .ok (.iload_n 0, 1) := by decide +kernel
theorem dX2_isComparison_13 : decode cX2_isComparison 13 = .ok (.bipush 62, 2) := by decide +kernel
theorem dX2_isComparison_15 : decode cX2_isComparison 15 = .ok (.if_icmp .ne 7, 3) := by decide +kernel
theorem dX2_isComparison_18 : decode cX2_isComparison 18 = .ok (.iconst 1, 1) := by decide +kernel
theorem dX2_isComparison_19 : decode cX2_isComparison 19 = .ok (.goto 4, 3) := by decide +kernel
theorem dX2_isComparison_22 : decode cX2_isComparison 22 = .ok (.iconst 0, 1) := by decide +kernel
theorem dX2_isComparison_23 : decode cX2_isComparison 23 = .ok (.ireturn, 1) := by decide +kernel
theorem dX3_init_0 : decode cX3_init 0 = .ok (.aload_n 0, 1) := by decide +kernel
theorem dX3_init_1 : decode cX3_init 1 = .ok (.invokespecial 3, 3) := by decide +kernel
theorem dX3_init_4 : decode cX3_init 4 = .ok (.aload_n 0, 1) := by decide +kernel
theorem dX3_init_5 : decode cX3_init 5 = .ok (.sipush 960, 3) := by decide +kernel
theorem dX3_init_8 : decode cX3_init 8 = .ok (.newarray .int, 2) := by decide +kernel
theorem dX3_init_10 : decode cX3_init 10 = .ok (.putfield 9, 3) := by decide +kernel
theorem dX3_init_13 : decode cX3_init 13 = .ok (.aload_n 0, 1) := by decide +kernel
theorem dX3_init_14 : decode cX3_init 14 = .ok (.iconst 4, 1) := by decide +kernel
theorem dX3_init_15 : decode cX3_init 15 = .ok (.newarray .int, 2) := by decide +kernel
theorem dX3_init_17 : decode cX3_init 17 = .ok (.putfield 15, 3) := by decide +kernel
theorem dX3_init_20 : decode cX3_init 20 = .ok (.aload_n 0, 1) := by decide +kernel
theorem dX3_init_21 : decode cX3_init 21 = .ok (.iconst (-1), 1) := by decide +kernel
theorem dX3_init_22 : decode cX3_init 22 = .ok (.putfield 18, 3) := by decide +kernel
theorem dX3_init_25 : decode cX3_init 25 = .ok (.aload_n 0, 1) := by decide +kernel
theorem dX3_init_26 : decode cX3_init 26 = .ok (.sipush 240, 3) := by decide +kernel
theorem dX3_init_29 : decode cX3_init 29 = .ok (.newarray .int, 2) := by decide +kernel
theorem dX3_init_31 : decode cX3_init 31 = .ok (.putfield 22, 3) := by decide +kernel
theorem dX3_init_34 : decode cX3_init 34 = .ok (.return_, 1) := by decide +kernel
theorem dX3_size_0 : decode cX3_size 0 = .ok (.aload_n 0, 1) := by decide +kernel
theorem dX3_size_1 : decode cX3_size 1 = .ok (.getfield 25, 3) := by decide +kernel
theorem dX3_size_4 : decode cX3_size 4 = .ok (.ireturn, 1) := by decide +kernel
theorem dX3_add_0 : decode cX3_add 0 = .ok (.aload_n 0, 1) := by decide +kernel
theorem dX3_add_1 : decode cX3_add 1 = .ok (.getfield 25, 3) := by decide +kernel
theorem dX3_add_4 : decode cX3_add 4 = .ok (.iconst 4, 1) := by decide +kernel
theorem dX3_add_5 : decode cX3_add 5 = .ok (.if_icmp .ge 38, 3) := by decide +kernel
theorem dX3_add_8 : decode cX3_add 8 = .ok (.aload_n 0, 1) := by decide +kernel
theorem dX3_add_9 : decode cX3_add 9 = .ok (.getfield 15, 3) := by decide +kernel
theorem dX3_add_12 : decode cX3_add 12 = .ok (.aload_n 0, 1) := by decide +kernel
theorem dX3_add_13 : decode cX3_add 13 = .ok (.getfield 25, 3) := by decide +kernel
theorem dX3_add_16 : decode cX3_add 16 = .ok (.aload_n 1, 1) := by decide +kernel
theorem dX3_add_17 : decode cX3_add 17 = .ok (.aload_n 0, 1) := by decide +kernel
theorem dX3_add_18 : decode cX3_add 18 = .ok (.getfield 9, 3) := by decide +kernel
theorem dX3_add_21 : decode cX3_add 21 = .ok (.aload_n 0, 1) := by decide +kernel
theorem dX3_add_22 : decode cX3_add 22 = .ok (.getfield 25, 3) := by decide +kernel
theorem dX3_add_25 : decode cX3_add 25 = .ok (.sipush 240, 3) := by decide +kernel
theorem dX3_add_28 : decode cX3_add 28 = .ok (.imul, 1) := by decide +kernel
theorem dX3_add_29 : decode cX3_add 29 = .ok (.invokevirtual 28, 3) := by decide +kernel
theorem dX3_add_32 : decode cX3_add 32 = .ok (.iastore, 1) := by decide +kernel
theorem dX3_add_33 : decode cX3_add 33 = .ok (.aload_n 0, 1) := by decide +kernel
theorem dX3_add_34 : decode cX3_add 34 = .ok (.dup, 1) := by decide +kernel
theorem dX3_add_35 : decode cX3_add 35 = .ok (.getfield 25, 3) := by decide +kernel
theorem dX3_add_38 : decode cX3_add 38 = .ok (.iconst 1, 1) := by decide +kernel
theorem dX3_add_39 : decode cX3_add 39 = .ok (.iadd, 1) := by decide +kernel
theorem dX3_add_40 : decode cX3_add 40 = .ok (.putfield 25, 3) := by decide +kernel
theorem dX3_add_43 : decode cX3_add 43 = .ok (.return_, 1) := by decide +kernel
theorem dX3_choose_0 : decode cX3_choose 0 = .ok (.iload_n 1, 1) := by decide +kernel
theorem dX3_choose_1 : decode cX3_choose 1 = .ok (.iconst (-1), 1) := by decide +kernel
theorem dX3_choose_2 : decode cX3_choose 2 = .ok (.if_icmp .lt 11, 3) := by decide +kernel
theorem dX3_choose_5 : decode cX3_choose 5 = .ok (.iload_n 1, 1) := by decide +kernel
theorem dX3_choose_6 : decode cX3_choose 6 = .ok (.aload_n 0, 1) := by decide +kernel
theorem dX3_choose_7 : decode cX3_choose 7 = .ok (.getfield 25, 3) := by decide +kernel
theorem dX3_choose_10 : decode cX3_choose 10 = .ok (.if_icmp .lt 5, 3) := by decide +kernel
theorem dX3_choose_13 : decode cX3_choose 13 = .ok (.iconst 0, 1) := by decide +kernel
theorem dX3_choose_14 : decode cX3_choose 14 = .ok (.ireturn, 1) := by decide +kernel
theorem dX3_choose_15 : decode cX3_choose 15 = .ok (.aload_n 0, 1) := by decide +kernel
theorem dX3_choose_16 : decode cX3_choose 16 = .ok (.iload_n 1, 1) := by decide +kernel
theorem dX3_choose_17 : decode cX3_choose 17 = .ok (.putfield 18, 3) := by decide +kernel
theorem dX3_choose_20 : decode cX3_choose 20 = .ok (.iconst 1, 1) := by decide +kernel
theorem dX3_choose_21 : decode cX3_choose 21 = .ok (.ireturn, 1) := by decide +kernel
theorem dX3_chosen_0 : decode cX3_chosen 0 = .ok (.aload_n 0, 1) := by decide +kernel
theorem dX3_chosen_1 : decode cX3_chosen 1 = .ok (.getfield 18, 3) := by decide +kernel
theorem dX3_chosen_4 : decode cX3_chosen 4 = .ok (.ireturn, 1) := by decide +kernel
theorem dX3_anyHolds_0 : decode cX3_anyHolds 0 = .ok (.aload_n 0, 1) := by decide +kernel
theorem dX3_anyHolds_1 : decode cX3_anyHolds 1 = .ok (.getfield 18, 3) := by decide +kernel
theorem dX3_anyHolds_4 : decode cX3_anyHolds 4 = .ok (.ifCond .lt 18, 3) := by decide +kernel
theorem dX3_anyHolds_7 : decode cX3_anyHolds 7 = .ok (.aload_n 0, 1) := by decide +kernel
theorem dX3_anyHolds_8 : decode cX3_anyHolds 8 = .ok (.getfield 18, 3) := by decide +kernel
theorem dX3_anyHolds_11 : decode cX3_anyHolds 11 = .ok (.aload_n 0, 1) := by decide +kernel
theorem dX3_anyHolds_12 : decode cX3_anyHolds 12 = .ok (.getfield 25, 3) := by decide +kernel
theorem dX3_anyHolds_15 : decode cX3_anyHolds 15 = .ok (.if_icmp .ge 7, 3) := by decide +kernel
theorem dX3_anyHolds_18 : decode cX3_anyHolds 18 = .ok (.iconst 1, 1) := by decide +kernel
theorem dX3_anyHolds_19 : decode cX3_anyHolds 19 = .ok (.goto 4, 3) := by decide +kernel
theorem dX3_anyHolds_22 : decode cX3_anyHolds 22 = .ok (.iconst 0, 1) := by decide +kernel
theorem dX3_anyHolds_23 : decode cX3_anyHolds 23 = .ok (.ireturn, 1) := by decide +kernel
theorem dX3_worth_0 : decode cX3_worth 0 = .ok (.aload_n 0, 1) := by decide +kernel
theorem dX3_worth_1 : decode cX3_worth 1 = .ok (.invokevirtual 34, 3) := by decide +kernel
theorem dX3_worth_4 : decode cX3_worth 4 = .ok (.ifCond .eq 15, 3) := by decide +kernel
theorem dX3_worth_7 : decode cX3_worth 7 = .ok (.aload_n 0, 1) := by decide +kernel
theorem dX3_worth_8 : decode cX3_worth 8 = .ok (.getfield 15, 3) := by decide +kernel
theorem dX3_worth_11 : decode cX3_worth 11 = .ok (.aload_n 0, 1) := by decide +kernel
theorem dX3_worth_12 : decode cX3_worth 12 = .ok (.getfield 18, 3) := by decide +kernel
theorem dX3_worth_15 : decode cX3_worth 15 = .ok (.iaload, 1) := by decide +kernel
theorem dX3_worth_16 : decode cX3_worth 16 = .ok (.goto 4, 3) := by decide +kernel
theorem dX3_worth_19 : decode cX3_worth 19 = .ok (.iconst 0, 1) := by decide +kernel
theorem dX3_worth_20 : decode cX3_worth 20 = .ok (.istore_n 2, 1) := by decide +kernel
theorem dX3_worth_21 : decode cX3_worth 21 = .ok (.aload_n 0, 1) := by decide +kernel
theorem dX3_worth_22 : decode cX3_worth 22 = .ok (.getfield 18, 3) := by decide +kernel
theorem dX3_worth_25 : decode cX3_worth 25 = .ok (.sipush 240, 3) := by decide +kernel
theorem dX3_worth_28 : decode cX3_worth 28 = .ok (.imul, 1) := by decide +kernel
theorem dX3_worth_29 : decode cX3_worth 29 = .ok (.istore_n 3, 1) := by decide +kernel
theorem dX3_worth_30 : decode cX3_worth 30 = .ok (.iconst 0, 1) := by decide +kernel
theorem dX3_worth_31 : decode cX3_worth 31 = .ok (.istore 4, 2) := by decide +kernel
theorem dX3_worth_33 : decode cX3_worth 33 = .ok (.iconst 0, 1) := by decide +kernel
theorem dX3_worth_34 : decode cX3_worth 34 = .ok (.istore 5, 2) := by decide +kernel
theorem dX3_worth_36 : decode cX3_worth 36 = .ok (.iconst 0, 1) := by decide +kernel
theorem dX3_worth_37 : decode cX3_worth 37 = .ok (.istore 6, 2) := by decide +kernel
theorem dX3_worth_39 : decode cX3_worth 39 = .ok (.iload 6, 2) := by decide +kernel
theorem dX3_worth_41 : decode cX3_worth 41 = .ok (.iload_n 2, 1) := by decide +kernel
theorem dX3_worth_42 : decode cX3_worth 42 = .ok (.if_icmp .ge 215, 3) := by decide +kernel
theorem dX3_worth_45 : decode cX3_worth 45 = .ok (.iload 5, 2) := by decide +kernel
theorem dX3_worth_47 : decode cX3_worth 47 = .ok (.iload_n 2, 1) := by decide +kernel
theorem dX3_worth_48 : decode cX3_worth 48 = .ok (.if_icmp .ge 209, 3) := by decide +kernel
theorem dX3_worth_51 : decode cX3_worth 51 = .ok (.iload 4, 2) := by decide +kernel
theorem dX3_worth_53 : decode cX3_worth 53 = .ok (.sipush 240, 3) := by decide +kernel
theorem dX3_worth_56 : decode cX3_worth 56 = .ok (.if_icmp .ge 201, 3) := by decide +kernel
theorem dX3_worth_59 : decode cX3_worth 59 = .ok (.aload_n 0, 1) := by decide +kernel
theorem dX3_worth_60 : decode cX3_worth 60 = .ok (.getfield 9, 3) := by decide +kernel
theorem dX3_worth_63 : decode cX3_worth 63 = .ok (.iload_n 3, 1) := by decide +kernel
theorem dX3_worth_64 : decode cX3_worth 64 = .ok (.iload 5, 2) := by decide +kernel
theorem dX3_worth_66 : decode cX3_worth 66 = .ok (.iadd, 1) := by decide +kernel
theorem dX3_worth_67 : decode cX3_worth 67 = .ok (.iaload, 1) := by decide +kernel
theorem dX3_worth_68 : decode cX3_worth 68 = .ok (.istore 7, 2) := by decide +kernel
theorem dX3_worth_70 : decode cX3_worth 70 = .ok (.iinc 5 1, 3) := by decide +kernel
theorem dX3_worth_73 : decode cX3_worth 73 = .ok (.iload 7, 2) := by decide +kernel
theorem dX3_worth_75 : decode cX3_worth 75 = .ok (.sipush 20000, 3) := by decide +kernel
theorem dX3_worth_78 : decode cX3_worth 78 = .ok (.if_icmp .ge 39, 3) := by decide +kernel
theorem dX3_worth_81 : decode cX3_worth 81 = .ok (.aload_n 0, 1) := by decide +kernel
theorem dX3_worth_82 : decode cX3_worth 82 = .ok (.getfield 22, 3) := by decide +kernel
theorem dX3_worth_85 : decode cX3_worth 85 = .ok (.iload 4, 2) := by decide +kernel
theorem dX3_worth_87 : decode cX3_worth 87 = .ok (.iload 7, 2) := by decide +kernel
theorem dX3_worth_89 : decode cX3_worth 89 = .ok (.sipush 10000, 3) := by decide +kernel
theorem dX3_worth_92 : decode cX3_worth 92 = .ok (.if_icmp .ge 8, 3) := by decide +kernel
theorem dX3_worth_95 : decode cX3_worth 95 = .ok (.iload 7, 2) := by decide +kernel
theorem dX3_worth_97 : decode cX3_worth 97 = .ok (.goto 13, 3) := by decide +kernel
theorem dX3_worth_100 : decode cX3_worth 100 = .ok (.aload_n 1, 1) := by decide +kernel
theorem dX3_worth_101 : decode cX3_worth 101 = .ok (.iload 7, 2) := by decide +kernel
theorem dX3_worth_103 : decode cX3_worth 103 = .ok (.sipush 10000, 3) := by decide +kernel
theorem dX3_worth_106 : decode cX3_worth 106 = .ok (.isub, 1) := by decide +kernel
theorem dX3_worth_107 : decode cX3_worth 107 = .ok (.invokestatic 38, 3) := by decide +kernel
theorem dX3_worth_110 : decode cX3_worth 110 = .ok (.iastore, 1) := by decide +kernel
theorem dX3_worth_111 : decode cX3_worth 111 = .ok (.iinc 4 1, 3) := by decide +kernel
theorem dX3_worth_114 : decode cX3_worth 114 = .ok (.goto 137, 3) := by decide +kernel
theorem dX3_worth_117 : decode cX3_worth 117 = .ok (.iload 4, 2) := by decide +kernel
theorem dX3_worth_119 : decode cX3_worth 119 = .ok (.ifCond .ne 5, 3) := by decide +kernel
theorem dX3_worth_122 : decode cX3_worth 122 = .ok (.iconst 0, 1) := by decide +kernel
theorem dX3_worth_123 : decode cX3_worth 123 = .ok (.ireturn, 1) := by decide +kernel
theorem dX3_worth_124 : decode cX3_worth 124 = .ok (.iload 7, 2) := by decide +kernel
theorem dX3_worth_126 : decode cX3_worth 126 = .ok (.sipush 30000, 3) := by decide +kernel
theorem dX3_worth_129 : decode cX3_worth 129 = .ok (.if_icmp .ne 13, 3) := by decide +kernel
theorem dX3_worth_132 : decode cX3_worth 132 = .ok (.aload_n 0, 1) := by decide +kernel
theorem dX3_worth_133 : decode cX3_worth 133 = .ok (.getfield 22, 3) := by decide +kernel
theorem dX3_worth_136 : decode cX3_worth 136 = .ok (.iload 4, 2) := by decide +kernel
theorem dX3_worth_138 : decode cX3_worth 138 = .ok (.iconst 1, 1) := by decide +kernel
theorem dX3_worth_139 : decode cX3_worth 139 = .ok (.isub, 1) := by decide +kernel
theorem dX3_worth_140 : decode cX3_worth 140 = .ok (.iaload, 1) := by decide +kernel
theorem dX3_worth_141 : decode cX3_worth 141 = .ok (.ireturn, 1) := by decide +kernel
theorem dX3_worth_142 : decode cX3_worth 142 = .ok (.iload 7, 2) := by decide +kernel
theorem dX3_worth_144 : decode cX3_worth 144 = .ok (.ldc 41, 2) := by decide +kernel
theorem dX3_worth_146 : decode cX3_worth 146 = .ok (.if_icmp .lt 31, 3) := by decide +kernel
theorem dX3_worth_149 : decode cX3_worth 149 = .ok (.iinc 4 (-1), 3) := by decide +kernel
theorem dX3_worth_152 : decode cX3_worth 152 = .ok (.aload_n 0, 1) := by decide +kernel
theorem dX3_worth_153 : decode cX3_worth 153 = .ok (.getfield 22, 3) := by decide +kernel
theorem dX3_worth_156 : decode cX3_worth 156 = .ok (.iload 4, 2) := by decide +kernel
theorem dX3_worth_158 : decode cX3_worth 158 = .ok (.iaload, 1) := by decide +kernel
theorem dX3_worth_159 : decode cX3_worth 159 = .ok (.ifCond .ne 11, 3) := by decide +kernel
theorem dX3_worth_162 : decode cX3_worth 162 = .ok (.iload 7, 2) := by decide +kernel
theorem dX3_worth_164 : decode cX3_worth 164 = .ok (.ldc 41, 2) := by decide +kernel
theorem dX3_worth_166 : decode cX3_worth 166 = .ok (.isub, 1) := by decide +kernel
theorem dX3_worth_167 : decode cX3_worth 167 = .ok (.goto 5, 3) := by decide +kernel
theorem dX3_worth_170 : decode cX3_worth 170 = .ok (.iload 5, 2) := by decide +kernel
theorem dX3_worth_172 : decode cX3_worth 172 = .ok (.istore 5, 2) := by decide +kernel
theorem dX3_worth_174 : decode cX3_worth 174 = .ok (.goto 77, 3) := by decide +kernel
theorem dX3_worth_177 : decode cX3_worth 177 = .ok (.iload 7, 2) := by decide +kernel
theorem dX3_worth_179 : decode cX3_worth 179 = .ok (.sipush 20033, 3) := by decide +kernel
theorem dX3_worth_182 : decode cX3_worth 182 = .ok (.if_icmp .ne 26, 3) := by decide +kernel
theorem dX3_worth_185 : decode cX3_worth 185 = .ok (.aload_n 0, 1) := by decide +kernel
theorem dX3_worth_186 : decode cX3_worth 186 = .ok (.getfield 22, 3) := by decide +kernel
theorem dX3_worth_189 : decode cX3_worth 189 = .ok (.iload 4, 2) := by decide +kernel
theorem dX3_worth_191 : decode cX3_worth 191 = .ok (.iconst 1, 1) := by decide +kernel
theorem dX3_worth_192 : decode cX3_worth 192 = .ok (.isub, 1) := by decide +kernel
theorem dX3_worth_193 : decode cX3_worth 193 = .ok (.iconst 1, 1) := by decide +kernel
theorem dX3_worth_194 : decode cX3_worth 194 = .ok (.aload_n 0, 1) := by decide +kernel
theorem dX3_worth_195 : decode cX3_worth 195 = .ok (.getfield 22, 3) := by decide +kernel
theorem dX3_worth_198 : decode cX3_worth 198 = .ok (.iload 4, 2) := by decide +kernel
theorem dX3_worth_200 : decode cX3_worth 200 = .ok (.iconst 1, 1) := by decide +kernel
theorem dX3_worth_201 : decode cX3_worth 201 = .ok (.isub, 1) := by decide +kernel
theorem dX3_worth_202 : decode cX3_worth 202 = .ok (.iaload, 1) := by decide +kernel
theorem dX3_worth_203 : decode cX3_worth 203 = .ok (.isub, 1) := by decide +kernel
theorem dX3_worth_204 : decode cX3_worth 204 = .ok (.iastore, 1) := by decide +kernel
theorem dX3_worth_205 : decode cX3_worth 205 = .ok (.goto 46, 3) := by decide +kernel
theorem dX3_worth_208 : decode cX3_worth 208 = .ok (.iload 4, 2) := by decide +kernel
theorem dX3_worth_210 : decode cX3_worth 210 = .ok (.iconst 2, 1) := by decide +kernel
theorem dX3_worth_211 : decode cX3_worth 211 = .ok (.if_icmp .lt 40, 3) := by decide +kernel
theorem dX3_worth_214 : decode cX3_worth 214 = .ok (.iinc 4 (-1), 3) := by decide +kernel
theorem dX3_worth_217 : decode cX3_worth 217 = .ok (.aload_n 0, 1) := by decide +kernel
theorem dX3_worth_218 : decode cX3_worth 218 = .ok (.getfield 22, 3) := by decide +kernel
theorem dX3_worth_221 : decode cX3_worth 221 = .ok (.iload 4, 2) := by decide +kernel
theorem dX3_worth_223 : decode cX3_worth 223 = .ok (.iconst 1, 1) := by decide +kernel
theorem dX3_worth_224 : decode cX3_worth 224 = .ok (.isub, 1) := by decide +kernel
theorem dX3_worth_225 : decode cX3_worth 225 = .ok (.iload 7, 2) := by decide +kernel
theorem dX3_worth_227 : decode cX3_worth 227 = .ok (.sipush 20000, 3) := by decide +kernel
theorem dX3_worth_230 : decode cX3_worth 230 = .ok (.isub, 1) := by decide +kernel
theorem dX3_worth_231 : decode cX3_worth 231 = .ok (.aload_n 0, 1) := by decide +kernel
theorem dX3_worth_232 : decode cX3_worth 232 = .ok (.getfield 22, 3) := by decide +kernel
theorem dX3_worth_235 : decode cX3_worth 235 = .ok (.iload 4, 2) := by decide +kernel
theorem dX3_worth_237 : decode cX3_worth 237 = .ok (.iconst 1, 1) := by decide +kernel
theorem dX3_worth_238 : decode cX3_worth 238 = .ok (.isub, 1) := by decide +kernel
theorem dX3_worth_239 : decode cX3_worth 239 = .ok (.iaload, 1) := by decide +kernel
theorem dX3_worth_240 : decode cX3_worth 240 = .ok (.aload_n 0, 1) := by decide +kernel
theorem dX3_worth_241 : decode cX3_worth 241 = .ok (.getfield 22, 3) := by decide +kernel
theorem dX3_worth_244 : decode cX3_worth 244 = .ok (.iload 4, 2) := by decide +kernel
theorem dX3_worth_246 : decode cX3_worth 246 = .ok (.iaload, 1) := by decide +kernel
theorem dX3_worth_247 : decode cX3_worth 247 = .ok (.invokestatic 42, 3) := by decide +kernel
theorem dX3_worth_250 : decode cX3_worth 250 = .ok (.iastore, 1) := by decide +kernel
theorem dX3_worth_251 : decode cX3_worth 251 = .ok (.iinc 6 1, 3) := by decide +kernel
theorem dX3_worth_254 : decode cX3_worth 254 = .ok (.goto (-215), 3) := by decide +kernel
theorem dX3_worth_257 : decode cX3_worth 257 = .ok (.iconst 0, 1) := by decide +kernel
theorem dX3_worth_258 : decode cX3_worth 258 = .ok (.ireturn, 1) := by decide +kernel
theorem dX3_letterOf_0 : decode cX3_letterOf 0 = .ok (.iload_n 1, 1) := by decide +kernel
theorem dX3_letterOf_1 : decode cX3_letterOf 1 = .ok (.ifCond .lt 15, 3) := by decide +kernel
theorem dX3_letterOf_4 : decode cX3_letterOf 4 = .ok (.iload_n 1, 1) := by decide +kernel
theorem dX3_letterOf_5 : decode cX3_letterOf 5 = .ok (.aload_n 0, 1) := by decide +kernel
theorem dX3_letterOf_6 : decode cX3_letterOf 6 = .ok (.arraylength, 1) := by decide +kernel
theorem dX3_letterOf_7 : decode cX3_letterOf 7 = .ok (.if_icmp .ge 9, 3) := by decide +kernel
theorem dX3_letterOf_10 : decode cX3_letterOf 10 = .ok (.aload_n 0, 1) := by decide +kernel
theorem dX3_letterOf_11 : decode cX3_letterOf 11 = .ok (.iload_n 1, 1) := by decide +kernel
theorem dX3_letterOf_12 : decode cX3_letterOf 12 = .ok (.iaload, 1) := by decide +kernel
theorem dX3_letterOf_13 : decode cX3_letterOf 13 = .ok (.goto 4, 3) := by decide +kernel
theorem dX3_letterOf_16 : decode cX3_letterOf 16 = .ok (.iconst 0, 1) := by decide +kernel
theorem dX3_letterOf_17 : decode cX3_letterOf 17 = .ok (.ireturn, 1) := by decide +kernel
theorem dX3_joined_0 : decode cX3_joined 0 = .ok (.iload_n 0, 1) := by decide +kernel
theorem dX3_joined_1 : decode cX3_joined 1 = .ok (.tableswitch 191 38 62 #[187, 191, 191, 191, 133, 115, 191, 124, 191, 142, 191, 191, 191, 191, 191, 191, 191, 191, 191, 191, 191, 191, 165, 154, 176], 115) := by decide +kernel
theorem dX3_joined_116 : decode cX3_joined 116 = .ok (.iload_n 1, 1) := by decide +kernel
theorem dX3_joined_117 : decode cX3_joined 117 = .ok (.i2l, 1) := by decide +kernel
theorem dX3_joined_118 : decode cX3_joined 118 = .ok (.iload_n 2, 1) := by decide +kernel
theorem dX3_joined_119 : decode cX3_joined 119 = .ok (.i2l, 1) := by decide +kernel
theorem dX3_joined_120 : decode cX3_joined 120 = .ok (.ladd, 1) := by decide +kernel
theorem dX3_joined_121 : decode cX3_joined 121 = .ok (.invokestatic 46, 3) := by decide +kernel
theorem dX3_joined_124 : decode cX3_joined 124 = .ok (.ireturn, 1) := by decide +kernel
theorem dX3_joined_125 : decode cX3_joined 125 = .ok (.iload_n 1, 1) := by decide +kernel
theorem dX3_joined_126 : decode cX3_joined 126 = .ok (.i2l, 1) := by decide +kernel
theorem dX3_joined_127 : decode cX3_joined 127 = .ok (.iload_n 2, 1) := by decide +kernel
theorem dX3_joined_128 : decode cX3_joined 128 = .ok (.i2l, 1) := by decide +kernel
theorem dX3_joined_129 : decode cX3_joined 129 = .ok (.lsub, 1) := by decide +kernel
theorem dX3_joined_130 : decode cX3_joined 130 = .ok (.invokestatic 46, 3) := by decide +kernel
theorem dX3_joined_133 : decode cX3_joined 133 = .ok (.ireturn, 1) := by decide +kernel
theorem dX3_joined_134 : decode cX3_joined 134 = .ok (.iload_n 1, 1) := by decide +kernel
theorem dX3_joined_135 : decode cX3_joined 135 = .ok (.i2l, 1) := by decide +kernel
theorem dX3_joined_136 : decode cX3_joined 136 = .ok (.iload_n 2, 1) := by decide +kernel
theorem dX3_joined_137 : decode cX3_joined 137 = .ok (.i2l, 1) := by decide +kernel
theorem dX3_joined_138 : decode cX3_joined 138 = .ok (.lmul, 1) := by decide +kernel
theorem dX3_joined_139 : decode cX3_joined 139 = .ok (.invokestatic 46, 3) := by decide +kernel
theorem dX3_joined_142 : decode cX3_joined 142 = .ok (.ireturn, 1) := by decide +kernel
theorem dX3_joined_143 : decode cX3_joined 143 = .ok (.iload_n 2, 1) := by decide +kernel
theorem dX3_joined_144 : decode cX3_joined 144 = .ok (.ifCond .ne 7, 3) := by decide +kernel
theorem dX3_joined_147 : decode cX3_joined 147 = .ok (.iconst 0, 1) := by decide +kernel
theorem dX3_joined_148 : decode cX3_joined 148 = .ok (.goto 6, 3) := by decide +kernel
theorem dX3_joined_151 : decode cX3_joined 151 = .ok (.iload_n 1, 1) := by decide +kernel
theorem dX3_joined_152 : decode cX3_joined 152 = .ok (.iload_n 2, 1) := by decide +kernel
theorem dX3_joined_153 : decode cX3_joined 153 = .ok (.idiv, 1) := by decide +kernel
theorem dX3_joined_154 : decode cX3_joined 154 = .ok (.ireturn, 1) := by decide +kernel
theorem dX3_joined_155 : decode cX3_joined 155 = .ok (.iload_n 1, 1) := by decide +kernel
theorem dX3_joined_156 : decode cX3_joined 156 = .ok (.iload_n 2, 1) := by decide +kernel
theorem dX3_joined_157 : decode cX3_joined 157 = .ok (.if_icmp .ne 7, 3) := by decide +kernel
theorem dX3_joined_160 : decode cX3_joined 160 = .ok (.iconst 1, 1) := by decide +kernel
theorem dX3_joined_161 : decode cX3_joined 161 = .ok (.goto 4, 3) := by decide +kernel
theorem dX3_joined_164 : decode cX3_joined 164 = .ok (.iconst 0, 1) := by decide +kernel
theorem dX3_joined_165 : decode cX3_joined 165 = .ok (.ireturn, 1) := by decide +kernel
theorem dX3_joined_166 : decode cX3_joined 166 = .ok (.iload_n 1, 1) := by decide +kernel
theorem dX3_joined_167 : decode cX3_joined 167 = .ok (.iload_n 2, 1) := by decide +kernel
theorem dX3_joined_168 : decode cX3_joined 168 = .ok (.if_icmp .ge 7, 3) := by decide +kernel
theorem dX3_joined_171 : decode cX3_joined 171 = .ok (.iconst 1, 1) := by decide +kernel
theorem dX3_joined_172 : decode cX3_joined 172 = .ok (.goto 4, 3) := by decide +kernel
theorem dX3_joined_175 : decode cX3_joined 175 = .ok (.iconst 0, 1) := by decide +kernel
theorem dX3_joined_176 : decode cX3_joined 176 = .ok (.ireturn, 1) := by decide +kernel
theorem dX3_joined_177 : decode cX3_joined 177 = .ok (.iload_n 1, 1) := by decide +kernel
theorem dX3_joined_178 : decode cX3_joined 178 = .ok (.iload_n 2, 1) := by decide +kernel
theorem dX3_joined_179 : decode cX3_joined 179 = .ok (.if_icmp .le 7, 3) := by decide +kernel
theorem dX3_joined_182 : decode cX3_joined 182 = .ok (.iconst 1, 1) := by decide +kernel
theorem dX3_joined_183 : decode cX3_joined 183 = .ok (.goto 4, 3) := by decide +kernel
theorem dX3_joined_186 : decode cX3_joined 186 = .ok (.iconst 0, 1) := by decide +kernel
theorem dX3_joined_187 : decode cX3_joined 187 = .ok (.ireturn, 1) := by decide +kernel
theorem dX3_joined_188 : decode cX3_joined 188 = .ok (.iload_n 1, 1) := by decide +kernel
theorem dX3_joined_189 : decode cX3_joined 189 = .ok (.iload_n 2, 1) := by decide +kernel
theorem dX3_joined_190 : decode cX3_joined 190 = .ok (.iand, 1) := by decide +kernel
theorem dX3_joined_191 : decode cX3_joined 191 = .ok (.ireturn, 1) := by decide +kernel
theorem dX3_joined_192 : decode cX3_joined 192 = .ok (.iload_n 1, 1) := by decide +kernel
theorem dX3_joined_193 : decode cX3_joined 193 = .ok (.iload_n 2, 1) := by decide +kernel
theorem dX3_joined_194 : decode cX3_joined 194 = .ok (.ior, 1) := by decide +kernel
theorem dX3_joined_195 : decode cX3_joined 195 = .ok (.ireturn, 1) := by decide +kernel
theorem dX3_held_0 : decode cX3_held 0 = .ok (.ldc2_w 50, 3) := by decide +kernel
theorem dX3_held_3 : decode cX3_held 3 = .ok (.ldc2_w 52, 3) := by decide +kernel
theorem dX3_held_6 : decode cX3_held 6 = .ok (.lload_n 0, 1) := by decide +kernel
theorem dX3_held_7 : decode cX3_held 7 = .ok (.invokestatic 54, 3) := by decide +kernel
theorem dX3_held_10 : decode cX3_held 10 = .ok (.invokestatic 60, 3) := by decide +kernel
theorem dX3_held_13 : decode cX3_held 13 = .ok (.l2i, 1) := by decide +kernel
theorem dX3_held_14 : decode cX3_held 14 = .ok (.ireturn, 1) := by decide +kernel
theorem dX4_init_0 : decode cX4_init 0 = .ok (.aload_n 0, 1) := by decide +kernel
theorem dX4_init_1 : decode cX4_init 1 = .ok (.invokespecial 3, 3) := by decide +kernel
theorem dX4_init_4 : decode cX4_init 4 = .ok (.aload_n 0, 1) := by decide +kernel
theorem dX4_init_5 : decode cX4_init 5 = .ok (.bipush 6, 2) := by decide +kernel
theorem dX4_init_7 : decode cX4_init 7 = .ok (.newarray .int, 2) := by decide +kernel
theorem dX4_init_9 : decode cX4_init 9 = .ok (.putfield 9, 3) := by decide +kernel
theorem dX4_init_12 : decode cX4_init 12 = .ok (.return_, 1) := by decide +kernel
theorem dX4_begin_0 : decode cX4_begin 0 = .ok (.aload_n 0, 1) := by decide +kernel
theorem dX4_begin_1 : decode cX4_begin 1 = .ok (.aload_n 1, 1) := by decide +kernel
theorem dX4_begin_2 : decode cX4_begin 2 = .ok (.invokevirtual 15, 3) := by decide +kernel
theorem dX4_begin_5 : decode cX4_begin 5 = .ok (.bipush 6, 2) := by decide +kernel
theorem dX4_begin_7 : decode cX4_begin 7 = .ok (.invokestatic 21, 3) := by decide +kernel
theorem dX4_begin_10 : decode cX4_begin 10 = .ok (.putfield 27, 3) := by decide +kernel
theorem dX4_begin_13 : decode cX4_begin 13 = .ok (.iconst 0, 1) := by decide +kernel
theorem dX4_begin_14 : decode cX4_begin 14 = .ok (.istore_n 2, 1) := by decide +kernel
theorem dX4_begin_15 : decode cX4_begin 15 = .ok (.iload_n 2, 1) := by decide +kernel
theorem dX4_begin_16 : decode cX4_begin 16 = .ok (.aload_n 0, 1) := by decide +kernel
theorem dX4_begin_17 : decode cX4_begin 17 = .ok (.getfield 27, 3) := by decide +kernel
theorem dX4_begin_20 : decode cX4_begin 20 = .ok (.if_icmp .ge 20, 3) := by decide +kernel
theorem dX4_begin_23 : decode cX4_begin 23 = .ok (.aload_n 0, 1) := by decide +kernel
theorem dX4_begin_24 : decode cX4_begin 24 = .ok (.getfield 9, 3) := by decide +kernel
theorem dX4_begin_27 : decode cX4_begin 27 = .ok (.iload_n 2, 1) := by decide +kernel
theorem dX4_begin_28 : decode cX4_begin 28 = .ok (.aload_n 1, 1) := by decide +kernel
theorem dX4_begin_29 : decode cX4_begin 29 = .ok (.iload_n 2, 1) := by decide +kernel
theorem dX4_begin_30 : decode cX4_begin 30 = .ok (.invokevirtual 30, 3) := by decide +kernel
theorem dX4_begin_33 : decode cX4_begin 33 = .ok (.iastore, 1) := by decide +kernel
theorem dX4_begin_34 : decode cX4_begin 34 = .ok (.iinc 2 1, 3) := by decide +kernel
theorem dX4_begin_37 : decode cX4_begin 37 = .ok (.goto (-22), 3) := by decide +kernel
theorem dX4_begin_40 : decode cX4_begin 40 = .ok (.aload_n 0, 1) := by decide +kernel
theorem dX4_begin_41 : decode cX4_begin 41 = .ok (.iconst 0, 1) := by decide +kernel
theorem dX4_begin_42 : decode cX4_begin 42 = .ok (.putfield 34, 3) := by decide +kernel
theorem dX4_begin_45 : decode cX4_begin 45 = .ok (.aload_n 0, 1) := by decide +kernel
theorem dX4_begin_46 : decode cX4_begin 46 = .ok (.iconst 0, 1) := by decide +kernel
theorem dX4_begin_47 : decode cX4_begin 47 = .ok (.putfield 37, 3) := by decide +kernel
theorem dX4_begin_50 : decode cX4_begin 50 = .ok (.aload_n 0, 1) := by decide +kernel
theorem dX4_begin_51 : decode cX4_begin 51 = .ok (.aload_n 1, 1) := by decide +kernel
theorem dX4_begin_52 : decode cX4_begin 52 = .ok (.invokevirtual 40, 3) := by decide +kernel
theorem dX4_begin_55 : decode cX4_begin 55 = .ok (.putfield 43, 3) := by decide +kernel
theorem dX4_begin_58 : decode cX4_begin 58 = .ok (.aload_n 0, 1) := by decide +kernel
theorem dX4_begin_59 : decode cX4_begin 59 = .ok (.iconst 0, 1) := by decide +kernel
theorem dX4_begin_60 : decode cX4_begin 60 = .ok (.putfield 46, 3) := by decide +kernel
theorem dX4_begin_63 : decode cX4_begin 63 = .ok (.return_, 1) := by decide +kernel
theorem dX4_ownerOf_0 : decode cX4_ownerOf 0 = .ok (.iload_n 1, 1) := by decide +kernel
theorem dX4_ownerOf_1 : decode cX4_ownerOf 1 = .ok (.ifCond .lt 20, 3) := by decide +kernel
theorem dX4_ownerOf_4 : decode cX4_ownerOf 4 = .ok (.iload_n 1, 1) := by decide +kernel
theorem dX4_ownerOf_5 : decode cX4_ownerOf 5 = .ok (.aload_n 0, 1) := by decide +kernel
theorem dX4_ownerOf_6 : decode cX4_ownerOf 6 = .ok (.getfield 27, 3) := by decide +kernel
theorem dX4_ownerOf_9 : decode cX4_ownerOf 9 = .ok (.if_icmp .ge 12, 3) := by decide +kernel
theorem dX4_ownerOf_12 : decode cX4_ownerOf 12 = .ok (.aload_n 0, 1) := by decide +kernel
theorem dX4_ownerOf_13 : decode cX4_ownerOf 13 = .ok (.getfield 9, 3) := by decide +kernel
theorem dX4_ownerOf_16 : decode cX4_ownerOf 16 = .ok (.iload_n 1, 1) := by decide +kernel
theorem dX4_ownerOf_17 : decode cX4_ownerOf 17 = .ok (.iaload, 1) := by decide +kernel
theorem dX4_ownerOf_18 : decode cX4_ownerOf 18 = .ok (.goto 4, 3) := by decide +kernel
theorem dX4_ownerOf_21 : decode cX4_ownerOf 21 = .ok (.iconst (-1), 1) := by decide +kernel
theorem dX4_ownerOf_22 : decode cX4_ownerOf 22 = .ok (.ireturn, 1) := by decide +kernel
theorem dX4_hand_0 : decode cX4_hand 0 = .ok (.iload_n 1, 1) := by decide +kernel
theorem dX4_hand_1 : decode cX4_hand 1 = .ok (.ifCond .lt 18, 3) := by decide +kernel
theorem dX4_hand_4 : decode cX4_hand 4 = .ok (.iload_n 1, 1) := by decide +kernel
theorem dX4_hand_5 : decode cX4_hand 5 = .ok (.aload_n 0, 1) := by decide +kernel
theorem dX4_hand_6 : decode cX4_hand 6 = .ok (.getfield 27, 3) := by decide +kernel
theorem dX4_hand_9 : decode cX4_hand 9 = .ok (.if_icmp .ge 10, 3) := by decide +kernel
theorem dX4_hand_12 : decode cX4_hand 12 = .ok (.aload_n 0, 1) := by decide +kernel
theorem dX4_hand_13 : decode cX4_hand 13 = .ok (.getfield 9, 3) := by decide +kernel
theorem dX4_hand_16 : decode cX4_hand 16 = .ok (.iload_n 1, 1) := by decide +kernel
theorem dX4_hand_17 : decode cX4_hand 17 = .ok (.iload_n 2, 1) := by decide +kernel
theorem dX4_hand_18 : decode cX4_hand 18 = .ok (.iastore, 1) := by decide +kernel
theorem dX4_hand_19 : decode cX4_hand 19 = .ok (.return_, 1) := by decide +kernel
theorem dX4_isDrained_0 : decode cX4_isDrained 0 = .ok (.aload_n 0, 1) := by decide +kernel
theorem dX4_isDrained_1 : decode cX4_isDrained 1 = .ok (.iload_n 1, 1) := by decide +kernel
theorem dX4_isDrained_2 : decode cX4_isDrained 2 = .ok (.invokevirtual 49, 3) := by decide +kernel
theorem dX4_isDrained_5 : decode cX4_isDrained 5 = .ok (.iconst (-1), 1) := by decide +kernel
theorem dX4_isDrained_6 : decode cX4_isDrained 6 = .ok (.if_icmp .ne 7, 3) := by decide +kernel
theorem dX4_isDrained_9 : decode cX4_isDrained 9 = .ok (.iconst 1, 1) := by decide +kernel
theorem dX4_isDrained_10 : decode cX4_isDrained 10 = .ok (.goto 4, 3) := by decide +kernel
theorem dX4_isDrained_13 : decode cX4_isDrained 13 = .ok (.iconst 0, 1) := by decide +kernel
theorem dX4_isDrained_14 : decode cX4_isDrained 14 = .ok (.ireturn, 1) := by decide +kernel
theorem dX4_isChipped_0 : decode cX4_isChipped 0 = .ok (.aload_n 0, 1) := by decide +kernel
theorem dX4_isChipped_1 : decode cX4_isChipped 1 = .ok (.getfield 34, 3) := by decide +kernel
theorem dX4_isChipped_4 : decode cX4_isChipped 4 = .ok (.iload_n 1, 1) := by decide +kernel
theorem dX4_isChipped_5 : decode cX4_isChipped 5 = .ok (.ishr, 1) := by decide +kernel
theorem dX4_isChipped_6 : decode cX4_isChipped 6 = .ok (.iconst 1, 1) := by decide +kernel
theorem dX4_isChipped_7 : decode cX4_isChipped 7 = .ok (.iand, 1) := by decide +kernel
theorem dX4_isChipped_8 : decode cX4_isChipped 8 = .ok (.ifCond .eq 7, 3) := by decide +kernel
theorem dX4_isChipped_11 : decode cX4_isChipped 11 = .ok (.iconst 1, 1) := by decide +kernel
theorem dX4_isChipped_12 : decode cX4_isChipped 12 = .ok (.goto 4, 3) := by decide +kernel
theorem dX4_isChipped_15 : decode cX4_isChipped 15 = .ok (.iconst 0, 1) := by decide +kernel
theorem dX4_isChipped_16 : decode cX4_isChipped 16 = .ok (.ireturn, 1) := by decide +kernel
theorem dX4_isSwallowed_0 : decode cX4_isSwallowed 0 = .ok (.aload_n 0, 1) := by decide +kernel
theorem dX4_isSwallowed_1 : decode cX4_isSwallowed 1 = .ok (.getfield 37, 3) := by decide +kernel
theorem dX4_isSwallowed_4 : decode cX4_isSwallowed 4 = .ok (.iload_n 1, 1) := by decide +kernel
theorem dX4_isSwallowed_5 : decode cX4_isSwallowed 5 = .ok (.ishr, 1) := by decide +kernel
theorem dX4_isSwallowed_6 : decode cX4_isSwallowed 6 = .ok (.iconst 1, 1) := by decide +kernel
theorem dX4_isSwallowed_7 : decode cX4_isSwallowed 7 = .ok (.iand, 1) := by decide +kernel
theorem dX4_isSwallowed_8 : decode cX4_isSwallowed 8 = .ok (.ifCond .eq 7, 3) := by decide +kernel
theorem dX4_isSwallowed_11 : decode cX4_isSwallowed 11 = .ok (.iconst 1, 1) := by decide +kernel
theorem dX4_isSwallowed_12 : decode cX4_isSwallowed 12 = .ok (.goto 4, 3) := by decide +kernel
theorem dX4_isSwallowed_15 : decode cX4_isSwallowed 15 = .ok (.iconst 0, 1) := by decide +kernel
theorem dX4_isSwallowed_16 : decode cX4_isSwallowed 16 = .ok (.ireturn, 1) := by decide +kernel
theorem dX4_isFree_0 : decode cX4_isFree 0 = .ok (.aload_n 0, 1) := by decide +kernel
theorem dX4_isFree_1 : decode cX4_isFree 1 = .ok (.iload_n 1, 1) := by decide +kernel
theorem dX4_isFree_2 : decode cX4_isFree 2 = .ok (.invokevirtual 52, 3) := by decide +kernel
theorem dX4_isFree_5 : decode cX4_isFree 5 = .ok (.ifCond .ne 15, 3) := by decide +kernel
theorem dX4_isFree_8 : decode cX4_isFree 8 = .ok (.aload_n 0, 1) := by decide +kernel
theorem dX4_isFree_9 : decode cX4_isFree 9 = .ok (.iload_n 1, 1) := by decide +kernel
theorem dX4_isFree_10 : decode cX4_isFree 10 = .ok (.invokevirtual 56, 3) := by decide +kernel
theorem dX4_isFree_13 : decode cX4_isFree 13 = .ok (.ifCond .ne 7, 3) := by decide +kernel
theorem dX4_isFree_16 : decode cX4_isFree 16 = .ok (.iconst 1, 1) := by decide +kernel
theorem dX4_isFree_17 : decode cX4_isFree 17 = .ok (.goto 4, 3) := by decide +kernel
theorem dX4_isFree_20 : decode cX4_isFree 20 = .ok (.iconst 0, 1) := by decide +kernel
theorem dX4_isFree_21 : decode cX4_isFree 21 = .ok (.ireturn, 1) := by decide +kernel
theorem dX4_handOf_0 : decode cX4_handOf 0 = .ok (.iconst 0, 1) := by decide +kernel
theorem dX4_handOf_1 : decode cX4_handOf 1 = .ok (.istore_n 2, 1) := by decide +kernel
theorem dX4_handOf_2 : decode cX4_handOf 2 = .ok (.iconst 0, 1) := by decide +kernel
theorem dX4_handOf_3 : decode cX4_handOf 3 = .ok (.istore_n 3, 1) := by decide +kernel
theorem dX4_handOf_4 : decode cX4_handOf 4 = .ok (.iload_n 3, 1) := by decide +kernel
theorem dX4_handOf_5 : decode cX4_handOf 5 = .ok (.aload_n 0, 1) := by decide +kernel
theorem dX4_handOf_6 : decode cX4_handOf 6 = .ok (.getfield 27, 3) := by decide +kernel
theorem dX4_handOf_9 : decode cX4_handOf 9 = .ok (.if_icmp .ge 29, 3) := by decide +kernel
theorem dX4_handOf_12 : decode cX4_handOf 12 = .ok (.iload_n 2, 1) := by decide +kernel
theorem dX4_handOf_13 : decode cX4_handOf 13 = .ok (.aload_n 0, 1) := by decide +kernel
theorem dX4_handOf_14 : decode cX4_handOf 14 = .ok (.getfield 9, 3) := by decide +kernel
theorem dX4_handOf_17 : decode cX4_handOf 17 = .ok (.iload_n 3, 1) := by decide +kernel
theorem dX4_handOf_18 : decode cX4_handOf 18 = .ok (.iaload, 1) := by decide +kernel
theorem dX4_handOf_19 : decode cX4_handOf 19 = .ok (.iload_n 1, 1) := by decide +kernel
theorem dX4_handOf_20 : decode cX4_handOf 20 = .ok (.if_icmp .ne 9, 3) := by decide +kernel
theorem dX4_handOf_23 : decode cX4_handOf 23 = .ok (.iconst 1, 1) := by decide +kernel
theorem dX4_handOf_24 : decode cX4_handOf 24 = .ok (.iload_n 3, 1) := by decide +kernel
theorem dX4_handOf_25 : decode cX4_handOf 25 = .ok (.ishl, 1) := by decide +kernel
theorem dX4_handOf_26 : decode cX4_handOf 26 = .ok (.goto 4, 3) := by decide +kernel
theorem dX4_handOf_29 : decode cX4_handOf 29 = .ok (.iconst 0, 1) := by decide +kernel
theorem dX4_handOf_30 : decode cX4_handOf 30 = .ok (.ior, 1) := by decide +kernel
theorem dX4_handOf_31 : decode cX4_handOf 31 = .ok (.istore_n 2, 1) := by decide +kernel
theorem dX4_handOf_32 : decode cX4_handOf 32 = .ok (.iinc 3 1, 3) := by decide +kernel
theorem dX4_handOf_35 : decode cX4_handOf 35 = .ok (.goto (-31), 3) := by decide +kernel
theorem dX4_handOf_38 : decode cX4_handOf 38 = .ok (.iload_n 2, 1) := by decide +kernel
theorem dX4_handOf_39 : decode cX4_handOf 39 = .ok (.ireturn, 1) := by decide +kernel
theorem dX4_drainedBits_0 : decode cX4_drainedBits 0 = .ok (.aload_n 0, 1) := by decide +kernel
theorem dX4_drainedBits_1 : decode cX4_drainedBits 1 = .ok (.iconst (-1), 1) := by decide +kernel
theorem dX4_drainedBits_2 : decode cX4_drainedBits 2 = .ok (.invokevirtual 59, 3) := by decide +kernel
theorem dX4_drainedBits_5 : decode cX4_drainedBits 5 = .ok (.ireturn, 1) := by decide +kernel
theorem dX4_soundSize_0 : decode cX4_soundSize 0 = .ok (.aload_n 1, 1) := by decide +kernel
theorem dX4_soundSize_1 : decode cX4_soundSize 1 = .ok (.iload_n 2, 1) := by decide +kernel
theorem dX4_soundSize_2 : decode cX4_soundSize 2 = .ok (.invokevirtual 62, 3) := by decide +kernel
theorem dX4_soundSize_5 : decode cX4_soundSize 5 = .ok (.istore_n 3, 1) := by decide +kernel
theorem dX4_soundSize_6 : decode cX4_soundSize 6 = .ok (.aload_n 0, 1) := by decide +kernel
theorem dX4_soundSize_7 : decode cX4_soundSize 7 = .ok (.iload_n 2, 1) := by decide +kernel
theorem dX4_soundSize_8 : decode cX4_soundSize 8 = .ok (.invokevirtual 65, 3) := by decide +kernel
theorem dX4_soundSize_11 : decode cX4_soundSize 11 = .ok (.ifCond .eq 13, 3) := by decide +kernel
theorem dX4_soundSize_14 : decode cX4_soundSize 14 = .ok (.iconst 0, 1) := by decide +kernel
theorem dX4_soundSize_15 : decode cX4_soundSize 15 = .ok (.iload_n 3, 1) := by decide +kernel
theorem dX4_soundSize_16 : decode cX4_soundSize 16 = .ok (.iconst 2, 1) := by decide +kernel
theorem dX4_soundSize_17 : decode cX4_soundSize 17 = .ok (.isub, 1) := by decide +kernel
theorem dX4_soundSize_18 : decode cX4_soundSize 18 = .ok (.invokestatic 68, 3) := by decide +kernel
theorem dX4_soundSize_21 : decode cX4_soundSize 21 = .ok (.goto 4, 3) := by decide +kernel
theorem dX4_soundSize_24 : decode cX4_soundSize 24 = .ok (.iload_n 3, 1) := by decide +kernel
theorem dX4_soundSize_25 : decode cX4_soundSize 25 = .ok (.ireturn, 1) := by decide +kernel
theorem dX4_packed_0 : decode cX4_packed 0 = .ok (.aload_n 0, 1) := by decide +kernel
theorem dX4_packed_1 : decode cX4_packed 1 = .ok (.getfield 46, 3) := by decide +kernel
theorem dX4_packed_4 : decode cX4_packed 4 = .ok (.i2l, 1) := by decide +kernel
theorem dX4_packed_5 : decode cX4_packed 5 = .ok (.bipush 40, 2) := by decide +kernel
theorem dX4_packed_7 : decode cX4_packed 7 = .ok (.lshl, 1) := by decide +kernel
theorem dX4_packed_8 : decode cX4_packed 8 = .ok (.aload_n 0, 1) := by decide +kernel
theorem dX4_packed_9 : decode cX4_packed 9 = .ok (.getfield 43, 3) := by decide +kernel
theorem dX4_packed_12 : decode cX4_packed 12 = .ok (.i2l, 1) := by decide +kernel
theorem dX4_packed_13 : decode cX4_packed 13 = .ok (.bipush 30, 2) := by decide +kernel
theorem dX4_packed_15 : decode cX4_packed 15 = .ok (.lshl, 1) := by decide +kernel
theorem dX4_packed_16 : decode cX4_packed 16 = .ok (.lor, 1) := by decide +kernel
theorem dX4_packed_17 : decode cX4_packed 17 = .ok (.aload_n 0, 1) := by decide +kernel
theorem dX4_packed_18 : decode cX4_packed 18 = .ok (.getfield 37, 3) := by decide +kernel
theorem dX4_packed_21 : decode cX4_packed 21 = .ok (.i2l, 1) := by decide +kernel
theorem dX4_packed_22 : decode cX4_packed 22 = .ok (.bipush 24, 2) := by decide +kernel
theorem dX4_packed_24 : decode cX4_packed 24 = .ok (.lshl, 1) := by decide +kernel
theorem dX4_packed_25 : decode cX4_packed 25 = .ok (.lor, 1) := by decide +kernel
theorem dX4_packed_26 : decode cX4_packed 26 = .ok (.aload_n 0, 1) := by decide +kernel
theorem dX4_packed_27 : decode cX4_packed 27 = .ok (.getfield 34, 3) := by decide +kernel
theorem dX4_packed_30 : decode cX4_packed 30 = .ok (.i2l, 1) := by decide +kernel
theorem dX4_packed_31 : decode cX4_packed 31 = .ok (.bipush 18, 2) := by decide +kernel
theorem dX4_packed_33 : decode cX4_packed 33 = .ok (.lshl, 1) := by decide +kernel
theorem dX4_packed_34 : decode cX4_packed 34 = .ok (.lor, 1) := by decide +kernel
theorem dX4_packed_35 : decode cX4_packed 35 = .ok (.lstore_n 1, 1) := by decide +kernel
theorem dX4_packed_36 : decode cX4_packed 36 = .ok (.iconst 0, 1) := by decide +kernel
theorem dX4_packed_37 : decode cX4_packed 37 = .ok (.istore_n 3, 1) := by decide +kernel
theorem dX4_packed_38 : decode cX4_packed 38 = .ok (.iload_n 3, 1) := by decide +kernel
theorem dX4_packed_39 : decode cX4_packed 39 = .ok (.aload_n 0, 1) := by decide +kernel
theorem dX4_packed_40 : decode cX4_packed 40 = .ok (.getfield 27, 3) := by decide +kernel
theorem dX4_packed_43 : decode cX4_packed 43 = .ok (.if_icmp .ge 25, 3) := by decide +kernel
theorem dX4_packed_46 : decode cX4_packed 46 = .ok (.lload_n 1, 1) := by decide +kernel
theorem dX4_packed_47 : decode cX4_packed 47 = .ok (.aload_n 0, 1) := by decide +kernel
theorem dX4_packed_48 : decode cX4_packed 48 = .ok (.getfield 9, 3) := by decide +kernel
theorem dX4_packed_51 : decode cX4_packed 51 = .ok (.iload_n 3, 1) := by decide +kernel
theorem dX4_packed_52 : decode cX4_packed 52 = .ok (.iaload, 1) := by decide +kernel
theorem dX4_packed_53 : decode cX4_packed 53 = .ok (.iconst 1, 1) := by decide +kernel
theorem dX4_packed_54 : decode cX4_packed 54 = .ok (.iadd, 1) := by decide +kernel
theorem dX4_packed_55 : decode cX4_packed 55 = .ok (.i2l, 1) := by decide +kernel
theorem dX4_packed_56 : decode cX4_packed 56 = .ok (.iconst 3, 1) := by decide +kernel
theorem dX4_packed_57 : decode cX4_packed 57 = .ok (.iload_n 3, 1) := by decide +kernel
theorem dX4_packed_58 : decode cX4_packed 58 = .ok (.imul, 1) := by decide +kernel
theorem dX4_packed_59 : decode cX4_packed 59 = .ok (.lshl, 1) := by decide +kernel
theorem dX4_packed_60 : decode cX4_packed 60 = .ok (.lor, 1) := by decide +kernel
theorem dX4_packed_61 : decode cX4_packed 61 = .ok (.lstore_n 1, 1) := by decide +kernel
theorem dX4_packed_62 : decode cX4_packed 62 = .ok (.iinc 3 1, 3) := by decide +kernel
theorem dX4_packed_65 : decode cX4_packed 65 = .ok (.goto (-27), 3) := by decide +kernel
theorem dX4_packed_68 : decode cX4_packed 68 = .ok (.lload_n 1, 1) := by decide +kernel
theorem dX4_packed_69 : decode cX4_packed 69 = .ok (.lreturn, 1) := by decide +kernel
theorem dX4_unpack_0 : decode cX4_unpack 0 = .ok (.iconst 0, 1) := by decide +kernel
theorem dX4_unpack_1 : decode cX4_unpack 1 = .ok (.istore_n 3, 1) := by decide +kernel
theorem dX4_unpack_2 : decode cX4_unpack 2 = .ok (.iload_n 3, 1) := by decide +kernel
theorem dX4_unpack_3 : decode cX4_unpack 3 = .ok (.aload_n 0, 1) := by decide +kernel
theorem dX4_unpack_4 : decode cX4_unpack 4 = .ok (.getfield 27, 3) := by decide +kernel
theorem dX4_unpack_7 : decode cX4_unpack 7 = .ok (.if_icmp .ge 27, 3) := by decide +kernel
theorem dX4_unpack_10 : decode cX4_unpack 10 = .ok (.aload_n 0, 1) := by decide +kernel
theorem dX4_unpack_11 : decode cX4_unpack 11 = .ok (.getfield 9, 3) := by decide +kernel
theorem dX4_unpack_14 : decode cX4_unpack 14 = .ok (.iload_n 3, 1) := by decide +kernel
theorem dX4_unpack_15 : decode cX4_unpack 15 = .ok (.lload_n 1, 1) := by decide +kernel
theorem dX4_unpack_16 : decode cX4_unpack 16 = .ok (.iconst 3, 1) := by decide +kernel
theorem dX4_unpack_17 : decode cX4_unpack 17 = .ok (.iload_n 3, 1) := by decide +kernel
theorem dX4_unpack_18 : decode cX4_unpack 18 = .ok (.imul, 1) := by decide +kernel
theorem dX4_unpack_19 : decode cX4_unpack 19 = .ok (.lushr, 1) := by decide +kernel
theorem dX4_unpack_20 : decode cX4_unpack 20 = .ok (.ldc2_w 71, 3) := by decide +kernel
theorem dX4_unpack_23 : decode cX4_unpack 23 = .ok (.land, 1) := by decide +kernel
theorem dX4_unpack_24 : decode cX4_unpack 24 = .ok (.l2i, 1) := by decide +kernel
theorem dX4_unpack_25 : decode cX4_unpack 25 = .ok (.iconst 1, 1) := by decide +kernel
theorem dX4_unpack_26 : decode cX4_unpack 26 = .ok (.isub, 1) := by decide +kernel
theorem dX4_unpack_27 : decode cX4_unpack 27 = .ok (.iastore, 1) := by decide +kernel
theorem dX4_unpack_28 : decode cX4_unpack 28 = .ok (.iinc 3 1, 3) := by decide +kernel
theorem dX4_unpack_31 : decode cX4_unpack 31 = .ok (.goto (-29), 3) := by decide +kernel
theorem dX4_unpack_34 : decode cX4_unpack 34 = .ok (.aload_n 0, 1) := by decide +kernel
theorem dX4_unpack_35 : decode cX4_unpack 35 = .ok (.lload_n 1, 1) := by decide +kernel
theorem dX4_unpack_36 : decode cX4_unpack 36 = .ok (.bipush 18, 2) := by decide +kernel
theorem dX4_unpack_38 : decode cX4_unpack 38 = .ok (.lushr, 1) := by decide +kernel
theorem dX4_unpack_39 : decode cX4_unpack 39 = .ok (.ldc2_w 73, 3) := by decide +kernel
theorem dX4_unpack_42 : decode cX4_unpack 42 = .ok (.land, 1) := by decide +kernel
theorem dX4_unpack_43 : decode cX4_unpack 43 = .ok (.l2i, 1) := by decide +kernel
theorem dX4_unpack_44 : decode cX4_unpack 44 = .ok (.putfield 34, 3) := by decide +kernel
theorem dX4_unpack_47 : decode cX4_unpack 47 = .ok (.aload_n 0, 1) := by decide +kernel
theorem dX4_unpack_48 : decode cX4_unpack 48 = .ok (.lload_n 1, 1) := by decide +kernel
theorem dX4_unpack_49 : decode cX4_unpack 49 = .ok (.bipush 24, 2) := by decide +kernel
theorem dX4_unpack_51 : decode cX4_unpack 51 = .ok (.lushr, 1) := by decide +kernel
theorem dX4_unpack_52 : decode cX4_unpack 52 = .ok (.ldc2_w 73, 3) := by decide +kernel
theorem dX4_unpack_55 : decode cX4_unpack 55 = .ok (.land, 1) := by decide +kernel
theorem dX4_unpack_56 : decode cX4_unpack 56 = .ok (.l2i, 1) := by decide +kernel
theorem dX4_unpack_57 : decode cX4_unpack 57 = .ok (.putfield 37, 3) := by decide +kernel
theorem dX4_unpack_60 : decode cX4_unpack 60 = .ok (.aload_n 0, 1) := by decide +kernel
theorem dX4_unpack_61 : decode cX4_unpack 61 = .ok (.lload_n 1, 1) := by decide +kernel
theorem dX4_unpack_62 : decode cX4_unpack 62 = .ok (.bipush 30, 2) := by decide +kernel
theorem dX4_unpack_64 : decode cX4_unpack 64 = .ok (.lushr, 1) := by decide +kernel
theorem dX4_unpack_65 : decode cX4_unpack 65 = .ok (.ldc2_w 75, 3) := by decide +kernel
theorem dX4_unpack_68 : decode cX4_unpack 68 = .ok (.land, 1) := by decide +kernel
theorem dX4_unpack_69 : decode cX4_unpack 69 = .ok (.l2i, 1) := by decide +kernel
theorem dX4_unpack_70 : decode cX4_unpack 70 = .ok (.putfield 43, 3) := by decide +kernel
theorem dX4_unpack_73 : decode cX4_unpack 73 = .ok (.aload_n 0, 1) := by decide +kernel
theorem dX4_unpack_74 : decode cX4_unpack 74 = .ok (.lload_n 1, 1) := by decide +kernel
theorem dX4_unpack_75 : decode cX4_unpack 75 = .ok (.bipush 40, 2) := by decide +kernel
theorem dX4_unpack_77 : decode cX4_unpack 77 = .ok (.lushr, 1) := by decide +kernel
theorem dX4_unpack_78 : decode cX4_unpack 78 = .ok (.l2i, 1) := by decide +kernel
theorem dX4_unpack_79 : decode cX4_unpack 79 = .ok (.putfield 46, 3) := by decide +kernel
theorem dX4_unpack_82 : decode cX4_unpack 82 = .ok (.return_, 1) := by decide +kernel
theorem dX5_init_0 : decode cX5_init 0 = .ok (.aload_n 0, 1) := by decide +kernel
theorem dX5_init_1 : decode cX5_init 1 = .ok (.invokespecial 3, 3) := by decide +kernel
theorem dX5_init_4 : decode cX5_init 4 = .ok (.aload_n 0, 1) := by decide +kernel
theorem dX5_init_5 : decode cX5_init 5 = .ok (.bipush 40, 2) := by decide +kernel
theorem dX5_init_7 : decode cX5_init 7 = .ok (.newarray .long, 2) := by decide +kernel
theorem dX5_init_9 : decode cX5_init 9 = .ok (.putfield 9, 3) := by decide +kernel
theorem dX5_init_12 : decode cX5_init 12 = .ok (.aload_n 0, 1) := by decide +kernel
theorem dX5_init_13 : decode cX5_init 13 = .ok (.sipush 128, 3) := by decide +kernel
theorem dX5_init_16 : decode cX5_init 16 = .ok (.newarray .int, 2) := by decide +kernel
theorem dX5_init_18 : decode cX5_init 18 = .ok (.putfield 15, 3) := by decide +kernel
theorem dX5_init_21 : decode cX5_init 21 = .ok (.aload_n 0, 1) := by decide +kernel
theorem dX5_init_22 : decode cX5_init 22 = .ok (.bipush 60, 2) := by decide +kernel
theorem dX5_init_24 : decode cX5_init 24 = .ok (.newarray .int, 2) := by decide +kernel
theorem dX5_init_26 : decode cX5_init 26 = .ok (.putfield 19, 3) := by decide +kernel
theorem dX5_init_29 : decode cX5_init 29 = .ok (.aload_n 0, 1) := by decide +kernel
theorem dX5_init_30 : decode cX5_init 30 = .ok (.aload_n 1, 1) := by decide +kernel
theorem dX5_init_31 : decode cX5_init 31 = .ok (.putfield 22, 3) := by decide +kernel
theorem dX5_init_34 : decode cX5_init 34 = .ok (.return_, 1) := by decide +kernel
theorem dX5_forgetAll_0 : decode cX5_forgetAll 0 = .ok (.aload_n 0, 1) := by decide +kernel
theorem dX5_forgetAll_1 : decode cX5_forgetAll 1 = .ok (.iconst 0, 1) := by decide +kernel
theorem dX5_forgetAll_2 : decode cX5_forgetAll 2 = .ok (.putfield 26, 3) := by decide +kernel
theorem dX5_forgetAll_5 : decode cX5_forgetAll 5 = .ok (.aload_n 0, 1) := by decide +kernel
theorem dX5_forgetAll_6 : decode cX5_forgetAll 6 = .ok (.iconst 0, 1) := by decide +kernel
theorem dX5_forgetAll_7 : decode cX5_forgetAll 7 = .ok (.putfield 30, 3) := by decide +kernel
theorem dX5_forgetAll_10 : decode cX5_forgetAll 10 = .ok (.return_, 1) := by decide +kernel
theorem dX5_remember_0 : decode cX5_remember 0 = .ok (.aload_n 0, 1) := by decide +kernel
theorem dX5_remember_1 : decode cX5_remember 1 = .ok (.getfield 9, 3) := by decide +kernel
theorem dX5_remember_4 : decode cX5_remember 4 = .ok (.aload_n 0, 1) := by decide +kernel
theorem dX5_remember_5 : decode cX5_remember 5 = .ok (.getfield 34, 3) := by decide +kernel
theorem dX5_remember_8 : decode cX5_remember 8 = .ok (.aload_n 0, 1) := by decide +kernel
theorem dX5_remember_9 : decode cX5_remember 9 = .ok (.getfield 22, 3) := by decide +kernel
theorem dX5_remember_12 : decode cX5_remember 12 = .ok (.invokevirtual 37, 3) := by decide +kernel
theorem dX5_remember_15 : decode cX5_remember 15 = .ok (.lastore, 1) := by decide +kernel
theorem dX5_remember_16 : decode cX5_remember 16 = .ok (.aload_n 0, 1) := by decide +kernel
theorem dX5_remember_17 : decode cX5_remember 17 = .ok (.aload_n 0, 1) := by decide +kernel
theorem dX5_remember_18 : decode cX5_remember 18 = .ok (.getfield 34, 3) := by decide +kernel
theorem dX5_remember_21 : decode cX5_remember 21 = .ok (.iconst 1, 1) := by decide +kernel
theorem dX5_remember_22 : decode cX5_remember 22 = .ok (.iadd, 1) := by decide +kernel
theorem dX5_remember_23 : decode cX5_remember 23 = .ok (.bipush 40, 2) := by decide +kernel
theorem dX5_remember_25 : decode cX5_remember 25 = .ok (.irem, 1) := by decide +kernel
theorem dX5_remember_26 : decode cX5_remember 26 = .ok (.putfield 34, 3) := by decide +kernel
theorem dX5_remember_29 : decode cX5_remember 29 = .ok (.aload_n 0, 1) := by decide +kernel
theorem dX5_remember_30 : decode cX5_remember 30 = .ok (.aload_n 0, 1) := by decide +kernel
theorem dX5_remember_31 : decode cX5_remember 31 = .ok (.getfield 26, 3) := by decide +kernel
theorem dX5_remember_34 : decode cX5_remember 34 = .ok (.iconst 1, 1) := by decide +kernel
theorem dX5_remember_35 : decode cX5_remember 35 = .ok (.iadd, 1) := by decide +kernel
theorem dX5_remember_36 : decode cX5_remember 36 = .ok (.bipush 40, 2) := by decide +kernel
theorem dX5_remember_38 : decode cX5_remember 38 = .ok (.invokestatic 43, 3) := by decide +kernel
theorem dX5_remember_41 : decode cX5_remember 41 = .ok (.putfield 26, 3) := by decide +kernel
theorem dX5_remember_44 : decode cX5_remember 44 = .ok (.return_, 1) := by decide +kernel
theorem dX5_undoable_0 : decode cX5_undoable 0 = .ok (.aload_n 0, 1) := by decide +kernel
theorem dX5_undoable_1 : decode cX5_undoable 1 = .ok (.getfield 26, 3) := by decide +kernel
theorem dX5_undoable_4 : decode cX5_undoable 4 = .ok (.ireturn, 1) := by decide +kernel
theorem dX5_goBackOne_0 : decode cX5_goBackOne 0 = .ok (.aload_n 0, 1) := by decide +kernel
theorem dX5_goBackOne_1 : decode cX5_goBackOne 1 = .ok (.getfield 26, 3) := by decide +kernel
theorem dX5_goBackOne_4 : decode cX5_goBackOne 4 = .ok (.ifCond .ne 5, 3) := by decide +kernel
theorem dX5_goBackOne_7 : decode cX5_goBackOne 7 = .ok (.iconst (-1), 1) := by decide +kernel
theorem dX5_goBackOne_8 : decode cX5_goBackOne 8 = .ok (.ireturn, 1) := by decide +kernel
theorem dX5_goBackOne_9 : decode cX5_goBackOne 9 = .ok (.aload_n 0, 1) := by decide +kernel
theorem dX5_goBackOne_10 : decode cX5_goBackOne 10 = .ok (.dup, 1) := by decide +kernel
theorem dX5_goBackOne_11 : decode cX5_goBackOne 11 = .ok (.getfield 26, 3) := by decide +kernel
theorem dX5_goBackOne_14 : decode cX5_goBackOne 14 = .ok (.iconst 1, 1) := by decide +kernel
theorem dX5_goBackOne_15 : decode cX5_goBackOne 15 = .ok (.isub, 1) := by decide +kernel
theorem dX5_goBackOne_16 : decode cX5_goBackOne 16 = .ok (.putfield 26, 3) := by decide +kernel
theorem dX5_goBackOne_19 : decode cX5_goBackOne 19 = .ok (.aload_n 0, 1) := by decide +kernel
theorem dX5_goBackOne_20 : decode cX5_goBackOne 20 = .ok (.aload_n 0, 1) := by decide +kernel
theorem dX5_goBackOne_21 : decode cX5_goBackOne 21 = .ok (.getfield 34, 3) := by decide +kernel
theorem dX5_goBackOne_24 : decode cX5_goBackOne 24 = .ok (.bipush 40, 2) := by decide +kernel
theorem dX5_goBackOne_26 : decode cX5_goBackOne 26 = .ok (.iadd, 1) := by decide +kernel
theorem dX5_goBackOne_27 : decode cX5_goBackOne 27 = .ok (.iconst 1, 1) := by decide +kernel
theorem dX5_goBackOne_28 : decode cX5_goBackOne 28 = .ok (.isub, 1) := by decide +kernel
theorem dX5_goBackOne_29 : decode cX5_goBackOne 29 = .ok (.bipush 40, 2) := by decide +kernel
theorem dX5_goBackOne_31 : decode cX5_goBackOne 31 = .ok (.irem, 1) := by decide +kernel
theorem dX5_goBackOne_32 : decode cX5_goBackOne 32 = .ok (.putfield 34, 3) := by decide +kernel
theorem dX5_goBackOne_35 : decode cX5_goBackOne 35 = .ok (.aload_n 0, 1) := by decide +kernel
theorem dX5_goBackOne_36 : decode cX5_goBackOne 36 = .ok (.getfield 22, 3) := by decide +kernel
theorem dX5_goBackOne_39 : decode cX5_goBackOne 39 = .ok (.aload_n 0, 1) := by decide +kernel
theorem dX5_goBackOne_40 : decode cX5_goBackOne 40 = .ok (.getfield 9, 3) := by decide +kernel
theorem dX5_goBackOne_43 : decode cX5_goBackOne 43 = .ok (.aload_n 0, 1) := by decide +kernel
theorem dX5_goBackOne_44 : decode cX5_goBackOne 44 = .ok (.getfield 34, 3) := by decide +kernel
theorem dX5_goBackOne_47 : decode cX5_goBackOne 47 = .ok (.laload, 1) := by decide +kernel
theorem dX5_goBackOne_48 : decode cX5_goBackOne 48 = .ok (.invokevirtual 49, 3) := by decide +kernel
theorem dX5_goBackOne_51 : decode cX5_goBackOne 51 = .ok (.aload_n 0, 1) := by decide +kernel
theorem dX5_goBackOne_52 : decode cX5_goBackOne 52 = .ok (.getfield 26, 3) := by decide +kernel
theorem dX5_goBackOne_55 : decode cX5_goBackOne 55 = .ok (.ireturn, 1) := by decide +kernel
theorem dX5_logLength_0 : decode cX5_logLength 0 = .ok (.aload_n 0, 1) := by decide +kernel
theorem dX5_logLength_1 : decode cX5_logLength 1 = .ok (.getfield 22, 3) := by decide +kernel
theorem dX5_logLength_4 : decode cX5_logLength 4 = .ok (.getfield 53, 3) := by decide +kernel
theorem dX5_logLength_7 : decode cX5_logLength 7 = .ok (.bipush 60, 2) := by decide +kernel
theorem dX5_logLength_9 : decode cX5_logLength 9 = .ok (.invokestatic 43, 3) := by decide +kernel
theorem dX5_logLength_12 : decode cX5_logLength 12 = .ok (.ireturn, 1) := by decide +kernel
theorem dX5_ringIndex_0 : decode cX5_ringIndex 0 = .ok (.aload_n 0, 1) := by decide +kernel
theorem dX5_ringIndex_1 : decode cX5_ringIndex 1 = .ok (.getfield 22, 3) := by decide +kernel
theorem dX5_ringIndex_4 : decode cX5_ringIndex 4 = .ok (.getfield 53, 3) := by decide +kernel
theorem dX5_ringIndex_7 : decode cX5_ringIndex 7 = .ok (.iconst 1, 1) := by decide +kernel
theorem dX5_ringIndex_8 : decode cX5_ringIndex 8 = .ok (.isub, 1) := by decide +kernel
theorem dX5_ringIndex_9 : decode cX5_ringIndex 9 = .ok (.iload_n 1, 1) := by decide +kernel
theorem dX5_ringIndex_10 : decode cX5_ringIndex 10 = .ok (.isub, 1) := by decide +kernel
theorem dX5_ringIndex_11 : decode cX5_ringIndex 11 = .ok (.bipush 127, 2) := by decide +kernel
theorem dX5_ringIndex_13 : decode cX5_ringIndex 13 = .ok (.iand, 1) := by decide +kernel
theorem dX5_ringIndex_14 : decode cX5_ringIndex 14 = .ok (.ireturn, 1) := by decide +kernel
theorem dX5_write_0 : decode cX5_write 0 = .ok (.aload_n 0, 1) := by decide +kernel
theorem dX5_write_1 : decode cX5_write 1 = .ok (.getfield 15, 3) := by decide +kernel
theorem dX5_write_4 : decode cX5_write 4 = .ok (.aload_n 0, 1) := by decide +kernel
theorem dX5_write_5 : decode cX5_write 5 = .ok (.iconst (-1), 1) := by decide +kernel
theorem dX5_write_6 : decode cX5_write 6 = .ok (.invokevirtual 56, 3) := by decide +kernel
theorem dX5_write_9 : decode cX5_write 9 = .ok (.aload_n 0, 1) := by decide +kernel
theorem dX5_write_10 : decode cX5_write 10 = .ok (.getfield 22, 3) := by decide +kernel
theorem dX5_write_13 : decode cX5_write 13 = .ok (.getfield 60, 3) := by decide +kernel
theorem dX5_write_16 : decode cX5_write 16 = .ok (.bipush 6, 2) := by decide +kernel
theorem dX5_write_18 : decode cX5_write 18 = .ok (.ishl, 1) := by decide +kernel
theorem dX5_write_19 : decode cX5_write 19 = .ok (.iload_n 1, 1) := by decide +kernel
theorem dX5_write_20 : decode cX5_write 20 = .ok (.ior, 1) := by decide +kernel
theorem dX5_write_21 : decode cX5_write 21 = .ok (.iastore, 1) := by decide +kernel
theorem dX5_write_22 : decode cX5_write 22 = .ok (.return_, 1) := by decide +kernel
theorem dX5_sweetsThen_0 : decode cX5_sweetsThen 0 = .ok (.aload_n 0, 1) := by decide +kernel
theorem dX5_sweetsThen_1 : decode cX5_sweetsThen 1 = .ok (.getfield 15, 3) := by decide +kernel
theorem dX5_sweetsThen_4 : decode cX5_sweetsThen 4 = .ok (.aload_n 0, 1) := by decide +kernel
theorem dX5_sweetsThen_5 : decode cX5_sweetsThen 5 = .ok (.iload_n 1, 1) := by decide +kernel
theorem dX5_sweetsThen_6 : decode cX5_sweetsThen 6 = .ok (.invokevirtual 56, 3) := by decide +kernel
theorem dX5_sweetsThen_9 : decode cX5_sweetsThen 9 = .ok (.iaload, 1) := by decide +kernel
theorem dX5_sweetsThen_10 : decode cX5_sweetsThen 10 = .ok (.bipush 6, 2) := by decide +kernel
theorem dX5_sweetsThen_12 : decode cX5_sweetsThen 12 = .ok (.ishr, 1) := by decide +kernel
theorem dX5_sweetsThen_13 : decode cX5_sweetsThen 13 = .ok (.ireturn, 1) := by decide +kernel
theorem dX5_contentThen_0 : decode cX5_contentThen 0 = .ok (.aload_n 0, 1) := by decide +kernel
theorem dX5_contentThen_1 : decode cX5_contentThen 1 = .ok (.getfield 15, 3) := by decide +kernel
theorem dX5_contentThen_4 : decode cX5_contentThen 4 = .ok (.aload_n 0, 1) := by decide +kernel
theorem dX5_contentThen_5 : decode cX5_contentThen 5 = .ok (.iload_n 1, 1) := by decide +kernel
theorem dX5_contentThen_6 : decode cX5_contentThen 6 = .ok (.invokevirtual 56, 3) := by decide +kernel
theorem dX5_contentThen_9 : decode cX5_contentThen 9 = .ok (.iaload, 1) := by decide +kernel
theorem dX5_contentThen_10 : decode cX5_contentThen 10 = .ok (.bipush 63, 2) := by decide +kernel
theorem dX5_contentThen_12 : decode cX5_contentThen 12 = .ok (.iand, 1) := by decide +kernel
theorem dX5_contentThen_13 : decode cX5_contentThen 13 = .ok (.ireturn, 1) := by decide +kernel
theorem dX5_keepImage_0 : decode cX5_keepImage 0 = .ok (.aload_n 0, 1) := by decide +kernel
theorem dX5_keepImage_1 : decode cX5_keepImage 1 = .ok (.iconst 1, 1) := by decide +kernel
theorem dX5_keepImage_2 : decode cX5_keepImage 2 = .ok (.putfield 30, 3) := by decide +kernel
theorem dX5_keepImage_5 : decode cX5_keepImage 5 = .ok (.aload_n 0, 1) := by decide +kernel
theorem dX5_keepImage_6 : decode cX5_keepImage 6 = .ok (.aload_n 0, 1) := by decide +kernel
theorem dX5_keepImage_7 : decode cX5_keepImage 7 = .ok (.getfield 22, 3) := by decide +kernel
theorem dX5_keepImage_10 : decode cX5_keepImage 10 = .ok (.invokevirtual 37, 3) := by decide +kernel
theorem dX5_keepImage_13 : decode cX5_keepImage 13 = .ok (.putfield 63, 3) := by decide +kernel
theorem dX5_keepImage_16 : decode cX5_keepImage 16 = .ok (.iconst 0, 1) := by decide +kernel
theorem dX5_keepImage_17 : decode cX5_keepImage 17 = .ok (.istore_n 1, 1) := by decide +kernel
theorem dX5_keepImage_18 : decode cX5_keepImage 18 = .ok (.iload_n 1, 1) := by decide +kernel
theorem dX5_keepImage_19 : decode cX5_keepImage 19 = .ok (.aload_n 0, 1) := by decide +kernel
theorem dX5_keepImage_20 : decode cX5_keepImage 20 = .ok (.invokevirtual 67, 3) := by decide +kernel
theorem dX5_keepImage_23 : decode cX5_keepImage 23 = .ok (.if_icmp .ge 25, 3) := by decide +kernel
theorem dX5_keepImage_26 : decode cX5_keepImage 26 = .ok (.aload_n 0, 1) := by decide +kernel
theorem dX5_keepImage_27 : decode cX5_keepImage 27 = .ok (.getfield 19, 3) := by decide +kernel
theorem dX5_keepImage_30 : decode cX5_keepImage 30 = .ok (.iload_n 1, 1) := by decide +kernel
theorem dX5_keepImage_31 : decode cX5_keepImage 31 = .ok (.aload_n 0, 1) := by decide +kernel
theorem dX5_keepImage_32 : decode cX5_keepImage 32 = .ok (.getfield 15, 3) := by decide +kernel
theorem dX5_keepImage_35 : decode cX5_keepImage 35 = .ok (.aload_n 0, 1) := by decide +kernel
theorem dX5_keepImage_36 : decode cX5_keepImage 36 = .ok (.iload_n 1, 1) := by decide +kernel
theorem dX5_keepImage_37 : decode cX5_keepImage 37 = .ok (.invokevirtual 56, 3) := by decide +kernel
theorem dX5_keepImage_40 : decode cX5_keepImage 40 = .ok (.iaload, 1) := by decide +kernel
theorem dX5_keepImage_41 : decode cX5_keepImage 41 = .ok (.iastore, 1) := by decide +kernel
theorem dX5_keepImage_42 : decode cX5_keepImage 42 = .ok (.iinc 1 1, 3) := by decide +kernel
theorem dX5_keepImage_45 : decode cX5_keepImage 45 = .ok (.goto (-27), 3) := by decide +kernel
theorem dX5_keepImage_48 : decode cX5_keepImage 48 = .ok (.return_, 1) := by decide +kernel
theorem dX5_restoreImage_0 : decode cX5_restoreImage 0 = .ok (.aload_n 0, 1) := by decide +kernel
theorem dX5_restoreImage_1 : decode cX5_restoreImage 1 = .ok (.getfield 30, 3) := by decide +kernel
theorem dX5_restoreImage_4 : decode cX5_restoreImage 4 = .ok (.ifCond .ne 5, 3) := by decide +kernel
theorem dX5_restoreImage_7 : decode cX5_restoreImage 7 = .ok (.iconst 0, 1) := by decide +kernel
theorem dX5_restoreImage_8 : decode cX5_restoreImage 8 = .ok (.ireturn, 1) := by decide +kernel
theorem dX5_restoreImage_9 : decode cX5_restoreImage 9 = .ok (.aload_n 0, 1) := by decide +kernel
theorem dX5_restoreImage_10 : decode cX5_restoreImage 10 = .ok (.getfield 22, 3) := by decide +kernel
theorem dX5_restoreImage_13 : decode cX5_restoreImage 13 = .ok (.aload_n 0, 1) := by decide +kernel
theorem dX5_restoreImage_14 : decode cX5_restoreImage 14 = .ok (.getfield 63, 3) := by decide +kernel
theorem dX5_restoreImage_17 : decode cX5_restoreImage 17 = .ok (.invokevirtual 49, 3) := by decide +kernel
theorem dX5_restoreImage_20 : decode cX5_restoreImage 20 = .ok (.iconst 0, 1) := by decide +kernel
theorem dX5_restoreImage_21 : decode cX5_restoreImage 21 = .ok (.istore_n 1, 1) := by decide +kernel
theorem dX5_restoreImage_22 : decode cX5_restoreImage 22 = .ok (.iload_n 1, 1) := by decide +kernel
theorem dX5_restoreImage_23 : decode cX5_restoreImage 23 = .ok (.aload_n 0, 1) := by decide +kernel
theorem dX5_restoreImage_24 : decode cX5_restoreImage 24 = .ok (.invokevirtual 67, 3) := by decide +kernel
theorem dX5_restoreImage_27 : decode cX5_restoreImage 27 = .ok (.if_icmp .ge 25, 3) := by decide +kernel
theorem dX5_restoreImage_30 : decode cX5_restoreImage 30 = .ok (.aload_n 0, 1) := by decide +kernel
theorem dX5_restoreImage_31 : decode cX5_restoreImage 31 = .ok (.getfield 15, 3) := by decide +kernel
theorem dX5_restoreImage_34 : decode cX5_restoreImage 34 = .ok (.aload_n 0, 1) := by decide +kernel
theorem dX5_restoreImage_35 : decode cX5_restoreImage 35 = .ok (.iload_n 1, 1) := by decide +kernel
theorem dX5_restoreImage_36 : decode cX5_restoreImage 36 = .ok (.invokevirtual 56, 3) := by decide +kernel
theorem dX5_restoreImage_39 : decode cX5_restoreImage 39 = .ok (.aload_n 0, 1) := by decide +kernel
theorem dX5_restoreImage_40 : decode cX5_restoreImage 40 = .ok (.getfield 19, 3) := by decide +kernel
theorem dX5_restoreImage_43 : decode cX5_restoreImage 43 = .ok (.iload_n 1, 1) := by decide +kernel
theorem dX5_restoreImage_44 : decode cX5_restoreImage 44 = .ok (.iaload, 1) := by decide +kernel
theorem dX5_restoreImage_45 : decode cX5_restoreImage 45 = .ok (.iastore, 1) := by decide +kernel
theorem dX5_restoreImage_46 : decode cX5_restoreImage 46 = .ok (.iinc 1 1, 3) := by decide +kernel
theorem dX5_restoreImage_49 : decode cX5_restoreImage 49 = .ok (.goto (-27), 3) := by decide +kernel
theorem dX5_restoreImage_52 : decode cX5_restoreImage 52 = .ok (.aload_n 0, 1) := by decide +kernel
theorem dX5_restoreImage_53 : decode cX5_restoreImage 53 = .ok (.iconst 0, 1) := by decide +kernel
theorem dX5_restoreImage_54 : decode cX5_restoreImage 54 = .ok (.putfield 26, 3) := by decide +kernel
theorem dX5_restoreImage_57 : decode cX5_restoreImage 57 = .ok (.iconst 1, 1) := by decide +kernel
theorem dX5_restoreImage_58 : decode cX5_restoreImage 58 = .ok (.ireturn, 1) := by decide +kernel
theorem dX6_init_0 : decode cX6_init 0 = .ok (.aload_n 0, 1) := by decide +kernel
theorem dX6_init_1 : decode cX6_init 1 = .ok (.invokespecial 3, 3) := by decide +kernel
theorem dX6_init_4 : decode cX6_init 4 = .ok (.aload_n 0, 1) := by decide +kernel
theorem dX6_init_5 : decode cX6_init 5 = .ok (.bipush 60, 2) := by decide +kernel
theorem dX6_init_7 : decode cX6_init 7 = .ok (.newarray .int, 2) := by decide +kernel
theorem dX6_init_9 : decode cX6_init 9 = .ok (.putfield 9, 3) := by decide +kernel
theorem dX6_init_12 : decode cX6_init 12 = .ok (.aload_n 0, 1) := by decide +kernel
theorem dX6_init_13 : decode cX6_init 13 = .ok (.aload_n 1, 1) := by decide +kernel
theorem dX6_init_14 : decode cX6_init 14 = .ok (.putfield 15, 3) := by decide +kernel
theorem dX6_init_17 : decode cX6_init 17 = .ok (.aload_n 0, 1) := by decide +kernel
theorem dX6_init_18 : decode cX6_init 18 = .ok (.aload_n 2, 1) := by decide +kernel
theorem dX6_init_19 : decode cX6_init 19 = .ok (.putfield 19, 3) := by decide +kernel
theorem dX6_init_22 : decode cX6_init 22 = .ok (.return_, 1) := by decide +kernel
theorem dX6_measure_0 : decode cX6_measure 0 = .ok (.aload_n 0, 1) := by decide +kernel
theorem dX6_measure_1 : decode cX6_measure 1 = .ok (.getfield 9, 3) := by decide +kernel
theorem dX6_measure_4 : decode cX6_measure 4 = .ok (.iconst 0, 1) := by decide +kernel
theorem dX6_measure_5 : decode cX6_measure 5 = .ok (.invokestatic 23, 3) := by decide +kernel
theorem dX6_measure_8 : decode cX6_measure 8 = .ok (.iconst 0, 1) := by decide +kernel
theorem dX6_measure_9 : decode cX6_measure 9 = .ok (.istore_n 1, 1) := by decide +kernel
theorem dX6_measure_10 : decode cX6_measure 10 = .ok (.iload_n 1, 1) := by decide +kernel
theorem dX6_measure_11 : decode cX6_measure 11 = .ok (.aload_n 0, 1) := by decide +kernel
theorem dX6_measure_12 : decode cX6_measure 12 = .ok (.getfield 15, 3) := by decide +kernel
theorem dX6_measure_15 : decode cX6_measure 15 = .ok (.invokevirtual 29, 3) := by decide +kernel
theorem dX6_measure_18 : decode cX6_measure 18 = .ok (.if_icmp .ge 53, 3) := by decide +kernel
theorem dX6_measure_21 : decode cX6_measure 21 = .ok (.aload_n 0, 1) := by decide +kernel
theorem dX6_measure_22 : decode cX6_measure 22 = .ok (.getfield 19, 3) := by decide +kernel
theorem dX6_measure_25 : decode cX6_measure 25 = .ok (.iload_n 1, 1) := by decide +kernel
theorem dX6_measure_26 : decode cX6_measure 26 = .ok (.invokevirtual 35, 3) := by decide +kernel
theorem dX6_measure_29 : decode cX6_measure 29 = .ok (.ifCond .ne 36, 3) := by decide +kernel
theorem dX6_measure_32 : decode cX6_measure 32 = .ok (.aload_n 0, 1) := by decide +kernel
theorem dX6_measure_33 : decode cX6_measure 33 = .ok (.getfield 9, 3) := by decide +kernel
theorem dX6_measure_36 : decode cX6_measure 36 = .ok (.aload_n 0, 1) := by decide +kernel
theorem dX6_measure_37 : decode cX6_measure 37 = .ok (.aload_n 0, 1) := by decide +kernel
theorem dX6_measure_38 : decode cX6_measure 38 = .ok (.getfield 19, 3) := by decide +kernel
theorem dX6_measure_41 : decode cX6_measure 41 = .ok (.iload_n 1, 1) := by decide +kernel
theorem dX6_measure_42 : decode cX6_measure 42 = .ok (.invokevirtual 41, 3) := by decide +kernel
theorem dX6_measure_45 : decode cX6_measure 45 = .ok (.iload_n 1, 1) := by decide +kernel
theorem dX6_measure_46 : decode cX6_measure 46 = .ok (.invokevirtual 45, 3) := by decide +kernel
theorem dX6_measure_49 : decode cX6_measure 49 = .ok (.dup2, 1) := by decide +kernel
theorem dX6_measure_50 : decode cX6_measure 50 = .ok (.iaload, 1) := by decide +kernel
theorem dX6_measure_51 : decode cX6_measure 51 = .ok (.aload_n 0, 1) := by decide +kernel
theorem dX6_measure_52 : decode cX6_measure 52 = .ok (.getfield 19, 3) := by decide +kernel
theorem dX6_measure_55 : decode cX6_measure 55 = .ok (.aload_n 0, 1) := by decide +kernel
theorem dX6_measure_56 : decode cX6_measure 56 = .ok (.getfield 15, 3) := by decide +kernel
theorem dX6_measure_59 : decode cX6_measure 59 = .ok (.iload_n 1, 1) := by decide +kernel
theorem dX6_measure_60 : decode cX6_measure 60 = .ok (.invokevirtual 49, 3) := by decide +kernel
theorem dX6_measure_63 : decode cX6_measure 63 = .ok (.iadd, 1) := by decide +kernel
theorem dX6_measure_64 : decode cX6_measure 64 = .ok (.iastore, 1) := by decide +kernel
theorem dX6_measure_65 : decode cX6_measure 65 = .ok (.iinc 1 1, 3) := by decide +kernel
theorem dX6_measure_68 : decode cX6_measure 68 = .ok (.goto (-58), 3) := by decide +kernel
theorem dX6_measure_71 : decode cX6_measure 71 = .ok (.return_, 1) := by decide +kernel
theorem dX6_indexOf_0 : decode cX6_indexOf 0 = .ok (.aload_n 0, 1) := by decide +kernel
theorem dX6_indexOf_1 : decode cX6_indexOf 1 = .ok (.getfield 15, 3) := by decide +kernel
theorem dX6_indexOf_4 : decode cX6_indexOf 4 = .ok (.iload_n 1, 1) := by decide +kernel
theorem dX6_indexOf_5 : decode cX6_indexOf 5 = .ok (.invokevirtual 53, 3) := by decide +kernel
theorem dX6_indexOf_8 : decode cX6_indexOf 8 = .ok (.bipush 6, 2) := by decide +kernel
theorem dX6_indexOf_10 : decode cX6_indexOf 10 = .ok (.imul, 1) := by decide +kernel
theorem dX6_indexOf_11 : decode cX6_indexOf 11 = .ok (.aload_n 0, 1) := by decide +kernel
theorem dX6_indexOf_12 : decode cX6_indexOf 12 = .ok (.getfield 15, 3) := by decide +kernel
theorem dX6_indexOf_15 : decode cX6_indexOf 15 = .ok (.iload_n 2, 1) := by decide +kernel
theorem dX6_indexOf_16 : decode cX6_indexOf 16 = .ok (.invokevirtual 56, 3) := by decide +kernel
theorem dX6_indexOf_19 : decode cX6_indexOf 19 = .ok (.iadd, 1) := by decide +kernel
theorem dX6_indexOf_20 : decode cX6_indexOf 20 = .ok (.ireturn, 1) := by decide +kernel
theorem dX6_move_0 : decode cX6_move 0 = .ok (.aload_n 0, 1) := by decide +kernel
theorem dX6_move_1 : decode cX6_move 1 = .ok (.iload_n 1, 1) := by decide +kernel
theorem dX6_move_2 : decode cX6_move 2 = .ok (.iload_n 2, 1) := by decide +kernel
theorem dX6_move_3 : decode cX6_move 3 = .ok (.invokevirtual 59, 3) := by decide +kernel
theorem dX6_move_6 : decode cX6_move 6 = .ok (.aload_n 0, 1) := by decide +kernel
theorem dX6_move_7 : decode cX6_move 7 = .ok (.iload_n 1, 1) := by decide +kernel
theorem dX6_move_8 : decode cX6_move 8 = .ok (.iload_n 3, 1) := by decide +kernel
theorem dX6_move_9 : decode cX6_move 9 = .ok (.invokevirtual 63, 3) := by decide +kernel
theorem dX6_move_12 : decode cX6_move 12 = .ok (.return_, 1) := by decide +kernel
theorem dX6_lift_0 : decode cX6_lift 0 = .ok (.aload_n 0, 1) := by decide +kernel
theorem dX6_lift_1 : decode cX6_lift 1 = .ok (.getfield 9, 3) := by decide +kernel
theorem dX6_lift_4 : decode cX6_lift 4 = .ok (.aload_n 0, 1) := by decide +kernel
theorem dX6_lift_5 : decode cX6_lift 5 = .ok (.iload_n 2, 1) := by decide +kernel
theorem dX6_lift_6 : decode cX6_lift 6 = .ok (.iload_n 1, 1) := by decide +kernel
theorem dX6_lift_7 : decode cX6_lift 7 = .ok (.invokevirtual 45, 3) := by decide +kernel
theorem dX6_lift_10 : decode cX6_lift 10 = .ok (.dup2, 1) := by decide +kernel
theorem dX6_lift_11 : decode cX6_lift 11 = .ok (.iaload, 1) := by decide +kernel
theorem dX6_lift_12 : decode cX6_lift 12 = .ok (.aload_n 0, 1) := by decide +kernel
theorem dX6_lift_13 : decode cX6_lift 13 = .ok (.getfield 19, 3) := by decide +kernel
theorem dX6_lift_16 : decode cX6_lift 16 = .ok (.aload_n 0, 1) := by decide +kernel
theorem dX6_lift_17 : decode cX6_lift 17 = .ok (.getfield 15, 3) := by decide +kernel
theorem dX6_lift_20 : decode cX6_lift 20 = .ok (.iload_n 1, 1) := by decide +kernel
theorem dX6_lift_21 : decode cX6_lift 21 = .ok (.invokevirtual 49, 3) := by decide +kernel
theorem dX6_lift_24 : decode cX6_lift 24 = .ok (.isub, 1) := by decide +kernel
theorem dX6_lift_25 : decode cX6_lift 25 = .ok (.iastore, 1) := by decide +kernel
theorem dX6_lift_26 : decode cX6_lift 26 = .ok (.return_, 1) := by decide +kernel
theorem dX6_put_0 : decode cX6_put 0 = .ok (.aload_n 0, 1) := by decide +kernel
theorem dX6_put_1 : decode cX6_put 1 = .ok (.getfield 9, 3) := by decide +kernel
theorem dX6_put_4 : decode cX6_put 4 = .ok (.aload_n 0, 1) := by decide +kernel
theorem dX6_put_5 : decode cX6_put 5 = .ok (.iload_n 2, 1) := by decide +kernel
theorem dX6_put_6 : decode cX6_put 6 = .ok (.iload_n 1, 1) := by decide +kernel
theorem dX6_put_7 : decode cX6_put 7 = .ok (.invokevirtual 45, 3) := by decide +kernel
theorem dX6_put_10 : decode cX6_put 10 = .ok (.dup2, 1) := by decide +kernel
theorem dX6_put_11 : decode cX6_put 11 = .ok (.iaload, 1) := by decide +kernel
theorem dX6_put_12 : decode cX6_put 12 = .ok (.aload_n 0, 1) := by decide +kernel
theorem dX6_put_13 : decode cX6_put 13 = .ok (.getfield 19, 3) := by decide +kernel
theorem dX6_put_16 : decode cX6_put 16 = .ok (.aload_n 0, 1) := by decide +kernel
theorem dX6_put_17 : decode cX6_put 17 = .ok (.getfield 15, 3) := by decide +kernel
theorem dX6_put_20 : decode cX6_put 20 = .ok (.iload_n 1, 1) := by decide +kernel
theorem dX6_put_21 : decode cX6_put 21 = .ok (.invokevirtual 49, 3) := by decide +kernel
theorem dX6_put_24 : decode cX6_put 24 = .ok (.iadd, 1) := by decide +kernel
theorem dX6_put_25 : decode cX6_put 25 = .ok (.iastore, 1) := by decide +kernel
theorem dX6_put_26 : decode cX6_put 26 = .ok (.return_, 1) := by decide +kernel
theorem dX6_strengthOf_0 : decode cX6_strengthOf 0 = .ok (.aload_n 0, 1) := by decide +kernel
theorem dX6_strengthOf_1 : decode cX6_strengthOf 1 = .ok (.getfield 9, 3) := by decide +kernel
theorem dX6_strengthOf_4 : decode cX6_strengthOf 4 = .ok (.iload_n 1, 1) := by decide +kernel
theorem dX6_strengthOf_5 : decode cX6_strengthOf 5 = .ok (.bipush 6, 2) := by decide +kernel
theorem dX6_strengthOf_7 : decode cX6_strengthOf 7 = .ok (.imul, 1) := by decide +kernel
theorem dX6_strengthOf_8 : decode cX6_strengthOf 8 = .ok (.iload_n 2, 1) := by decide +kernel
theorem dX6_strengthOf_9 : decode cX6_strengthOf 9 = .ok (.iadd, 1) := by decide +kernel
theorem dX6_strengthOf_10 : decode cX6_strengthOf 10 = .ok (.iaload, 1) := by decide +kernel
theorem dX6_strengthOf_11 : decode cX6_strengthOf 11 = .ok (.ireturn, 1) := by decide +kernel
theorem dX6_strongestKind_0 : decode cX6_strongestKind 0 = .ok (.iconst (-1), 1) := by decide +kernel
theorem dX6_strongestKind_1 : decode cX6_strongestKind 1 = .ok (.istore_n 2, 1) := by decide +kernel
theorem dX6_strongestKind_2 : decode cX6_strongestKind 2 = .ok (.iconst 0, 1) := by decide +kernel
theorem dX6_strongestKind_3 : decode cX6_strongestKind 3 = .ok (.istore_n 3, 1) := by decide +kernel
theorem dX6_strongestKind_4 : decode cX6_strongestKind 4 = .ok (.iconst 0, 1) := by decide +kernel
theorem dX6_strongestKind_5 : decode cX6_strongestKind 5 = .ok (.istore 4, 2) := by decide +kernel
theorem dX6_strongestKind_7 : decode cX6_strongestKind 7 = .ok (.iload 4, 2) := by decide +kernel
theorem dX6_strongestKind_9 : decode cX6_strongestKind 9 = .ok (.bipush 6, 2) := by decide +kernel
theorem dX6_strongestKind_11 : decode cX6_strongestKind 11 = .ok (.if_icmp .ge 31, 3) := by decide +kernel
theorem dX6_strongestKind_14 : decode cX6_strongestKind 14 = .ok (.aload_n 0, 1) := by decide +kernel
theorem dX6_strongestKind_15 : decode cX6_strongestKind 15 = .ok (.iload_n 1, 1) := by decide +kernel
theorem dX6_strongestKind_16 : decode cX6_strongestKind 16 = .ok (.iload 4, 2) := by decide +kernel
theorem dX6_strongestKind_18 : decode cX6_strongestKind 18 = .ok (.invokevirtual 66, 3) := by decide +kernel
theorem dX6_strongestKind_21 : decode cX6_strongestKind 21 = .ok (.iload_n 3, 1) := by decide +kernel
theorem dX6_strongestKind_22 : decode cX6_strongestKind 22 = .ok (.if_icmp .le 14, 3) := by decide +kernel
theorem dX6_strongestKind_25 : decode cX6_strongestKind 25 = .ok (.aload_n 0, 1) := by decide +kernel
theorem dX6_strongestKind_26 : decode cX6_strongestKind 26 = .ok (.iload_n 1, 1) := by decide +kernel
theorem dX6_strongestKind_27 : decode cX6_strongestKind 27 = .ok (.iload 4, 2) := by decide +kernel
theorem dX6_strongestKind_29 : decode cX6_strongestKind 29 = .ok (.invokevirtual 66, 3) := by decide +kernel
theorem dX6_strongestKind_32 : decode cX6_strongestKind 32 = .ok (.istore_n 3, 1) := by decide +kernel
theorem dX6_strongestKind_33 : decode cX6_strongestKind 33 = .ok (.iload 4, 2) := by decide +kernel
theorem dX6_strongestKind_35 : decode cX6_strongestKind 35 = .ok (.istore_n 2, 1) := by decide +kernel
theorem dX6_strongestKind_36 : decode cX6_strongestKind 36 = .ok (.iinc 4 1, 3) := by decide +kernel
theorem dX6_strongestKind_39 : decode cX6_strongestKind 39 = .ok (.goto (-32), 3) := by decide +kernel
theorem dX6_strongestKind_42 : decode cX6_strongestKind 42 = .ok (.iload_n 2, 1) := by decide +kernel
theorem dX6_strongestKind_43 : decode cX6_strongestKind 43 = .ok (.ireturn, 1) := by decide +kernel
theorem dX6_contentBits_0 : decode cX6_contentBits 0 = .ok (.iconst 0, 1) := by decide +kernel
theorem dX6_contentBits_1 : decode cX6_contentBits 1 = .ok (.istore_n 1, 1) := by decide +kernel
theorem dX6_contentBits_2 : decode cX6_contentBits 2 = .ok (.iconst 0, 1) := by decide +kernel
theorem dX6_contentBits_3 : decode cX6_contentBits 3 = .ok (.istore_n 2, 1) := by decide +kernel
theorem dX6_contentBits_4 : decode cX6_contentBits 4 = .ok (.iload_n 2, 1) := by decide +kernel
theorem dX6_contentBits_5 : decode cX6_contentBits 5 = .ok (.aload_n 0, 1) := by decide +kernel
theorem dX6_contentBits_6 : decode cX6_contentBits 6 = .ok (.getfield 15, 3) := by decide +kernel
theorem dX6_contentBits_9 : decode cX6_contentBits 9 = .ok (.invokevirtual 69, 3) := by decide +kernel
theorem dX6_contentBits_12 : decode cX6_contentBits 12 = .ok (.if_icmp .ge 42, 3) := by decide +kernel
theorem dX6_contentBits_15 : decode cX6_contentBits 15 = .ok (.iload_n 1, 1) := by decide +kernel
theorem dX6_contentBits_16 : decode cX6_contentBits 16 = .ok (.aload_n 0, 1) := by decide +kernel
theorem dX6_contentBits_17 : decode cX6_contentBits 17 = .ok (.aload_n 0, 1) := by decide +kernel
theorem dX6_contentBits_18 : decode cX6_contentBits 18 = .ok (.getfield 15, 3) := by decide +kernel
theorem dX6_contentBits_21 : decode cX6_contentBits 21 = .ok (.iload_n 2, 1) := by decide +kernel
theorem dX6_contentBits_22 : decode cX6_contentBits 22 = .ok (.invokevirtual 72, 3) := by decide +kernel
theorem dX6_contentBits_25 : decode cX6_contentBits 25 = .ok (.invokevirtual 75, 3) := by decide +kernel
theorem dX6_contentBits_28 : decode cX6_contentBits 28 = .ok (.aload_n 0, 1) := by decide +kernel
theorem dX6_contentBits_29 : decode cX6_contentBits 29 = .ok (.getfield 15, 3) := by decide +kernel
theorem dX6_contentBits_32 : decode cX6_contentBits 32 = .ok (.iload_n 2, 1) := by decide +kernel
theorem dX6_contentBits_33 : decode cX6_contentBits 33 = .ok (.invokevirtual 78, 3) := by decide +kernel
theorem dX6_contentBits_36 : decode cX6_contentBits 36 = .ok (.if_icmp .ne 9, 3) := by decide +kernel
theorem dX6_contentBits_39 : decode cX6_contentBits 39 = .ok (.iconst 1, 1) := by decide +kernel
theorem dX6_contentBits_40 : decode cX6_contentBits 40 = .ok (.iload_n 2, 1) := by decide +kernel
theorem dX6_contentBits_41 : decode cX6_contentBits 41 = .ok (.ishl, 1) := by decide +kernel
theorem dX6_contentBits_42 : decode cX6_contentBits 42 = .ok (.goto 4, 3) := by decide +kernel
theorem dX6_contentBits_45 : decode cX6_contentBits 45 = .ok (.iconst 0, 1) := by decide +kernel
theorem dX6_contentBits_46 : decode cX6_contentBits 46 = .ok (.ior, 1) := by decide +kernel
theorem dX6_contentBits_47 : decode cX6_contentBits 47 = .ok (.istore_n 1, 1) := by decide +kernel
theorem dX6_contentBits_48 : decode cX6_contentBits 48 = .ok (.iinc 2 1, 3) := by decide +kernel
theorem dX6_contentBits_51 : decode cX6_contentBits 51 = .ok (.goto (-47), 3) := by decide +kernel
theorem dX6_contentBits_54 : decode cX6_contentBits 54 = .ok (.iload_n 1, 1) := by decide +kernel
theorem dX6_contentBits_55 : decode cX6_contentBits 55 = .ok (.ireturn, 1) := by decide +kernel
theorem dX6_placesWithout_0 : decode cX6_placesWithout 0 = .ok (.iconst 0, 1) := by decide +kernel
theorem dX6_placesWithout_1 : decode cX6_placesWithout 1 = .ok (.istore_n 1, 1) := by decide +kernel
theorem dX6_placesWithout_2 : decode cX6_placesWithout 2 = .ok (.iconst 0, 1) := by decide +kernel
theorem dX6_placesWithout_3 : decode cX6_placesWithout 3 = .ok (.istore_n 2, 1) := by decide +kernel
theorem dX6_placesWithout_4 : decode cX6_placesWithout 4 = .ok (.iload_n 2, 1) := by decide +kernel
theorem dX6_placesWithout_5 : decode cX6_placesWithout 5 = .ok (.bipush 10, 2) := by decide +kernel
theorem dX6_placesWithout_7 : decode cX6_placesWithout 7 = .ok (.if_icmp .ge 28, 3) := by decide +kernel
theorem dX6_placesWithout_10 : decode cX6_placesWithout 10 = .ok (.iload_n 1, 1) := by decide +kernel
theorem dX6_placesWithout_11 : decode cX6_placesWithout 11 = .ok (.aload_n 0, 1) := by decide +kernel
theorem dX6_placesWithout_12 : decode cX6_placesWithout 12 = .ok (.iload_n 2, 1) := by decide +kernel
theorem dX6_placesWithout_13 : decode cX6_placesWithout 13 = .ok (.invokevirtual 75, 3) := by decide +kernel
theorem dX6_placesWithout_16 : decode cX6_placesWithout 16 = .ok (.iconst (-1), 1) := by decide +kernel
theorem dX6_placesWithout_17 : decode cX6_placesWithout 17 = .ok (.if_icmp .ne 9, 3) := by decide +kernel
theorem dX6_placesWithout_20 : decode cX6_placesWithout 20 = .ok (.iconst 1, 1) := by decide +kernel
theorem dX6_placesWithout_21 : decode cX6_placesWithout 21 = .ok (.iload_n 2, 1) := by decide +kernel
theorem dX6_placesWithout_22 : decode cX6_placesWithout 22 = .ok (.ishl, 1) := by decide +kernel
theorem dX6_placesWithout_23 : decode cX6_placesWithout 23 = .ok (.goto 4, 3) := by decide +kernel
theorem dX6_placesWithout_26 : decode cX6_placesWithout 26 = .ok (.iconst 0, 1) := by decide +kernel
theorem dX6_placesWithout_27 : decode cX6_placesWithout 27 = .ok (.ior, 1) := by decide +kernel
theorem dX6_placesWithout_28 : decode cX6_placesWithout 28 = .ok (.istore_n 1, 1) := by decide +kernel
theorem dX6_placesWithout_29 : decode cX6_placesWithout 29 = .ok (.iinc 2 1, 3) := by decide +kernel
theorem dX6_placesWithout_32 : decode cX6_placesWithout 32 = .ok (.goto (-28), 3) := by decide +kernel
theorem dX6_placesWithout_35 : decode cX6_placesWithout 35 = .ok (.iload_n 1, 1) := by decide +kernel
theorem dX6_placesWithout_36 : decode cX6_placesWithout 36 = .ok (.ireturn, 1) := by decide +kernel
theorem dX6_areAllContent_0 : decode cX6_areAllContent 0 = .ok (.iconst 0, 1) := by decide +kernel
theorem dX6_areAllContent_1 : decode cX6_areAllContent 1 = .ok (.istore_n 1, 1) := by decide +kernel
theorem dX6_areAllContent_2 : decode cX6_areAllContent 2 = .ok (.iload_n 1, 1) := by decide +kernel
theorem dX6_areAllContent_3 : decode cX6_areAllContent 3 = .ok (.aload_n 0, 1) := by decide +kernel
theorem dX6_areAllContent_4 : decode cX6_areAllContent 4 = .ok (.getfield 15, 3) := by decide +kernel
theorem dX6_areAllContent_7 : decode cX6_areAllContent 7 = .ok (.invokevirtual 69, 3) := by decide +kernel
theorem dX6_areAllContent_10 : decode cX6_areAllContent 10 = .ok (.if_icmp .ge 34, 3) := by decide +kernel
theorem dX6_areAllContent_13 : decode cX6_areAllContent 13 = .ok (.aload_n 0, 1) := by decide +kernel
theorem dX6_areAllContent_14 : decode cX6_areAllContent 14 = .ok (.aload_n 0, 1) := by decide +kernel
theorem dX6_areAllContent_15 : decode cX6_areAllContent 15 = .ok (.getfield 15, 3) := by decide +kernel
theorem dX6_areAllContent_18 : decode cX6_areAllContent 18 = .ok (.iload_n 1, 1) := by decide +kernel
theorem dX6_areAllContent_19 : decode cX6_areAllContent 19 = .ok (.invokevirtual 72, 3) := by decide +kernel
theorem dX6_areAllContent_22 : decode cX6_areAllContent 22 = .ok (.invokevirtual 75, 3) := by decide +kernel
theorem dX6_areAllContent_25 : decode cX6_areAllContent 25 = .ok (.aload_n 0, 1) := by decide +kernel
theorem dX6_areAllContent_26 : decode cX6_areAllContent 26 = .ok (.getfield 15, 3) := by decide +kernel
theorem dX6_areAllContent_29 : decode cX6_areAllContent 29 = .ok (.iload_n 1, 1) := by decide +kernel
theorem dX6_areAllContent_30 : decode cX6_areAllContent 30 = .ok (.invokevirtual 78, 3) := by decide +kernel
theorem dX6_areAllContent_33 : decode cX6_areAllContent 33 = .ok (.if_icmp .eq 5, 3) := by decide +kernel
theorem dX6_areAllContent_36 : decode cX6_areAllContent 36 = .ok (.iconst 0, 1) := by decide +kernel
theorem dX6_areAllContent_37 : decode cX6_areAllContent 37 = .ok (.ireturn, 1) := by decide +kernel
theorem dX6_areAllContent_38 : decode cX6_areAllContent 38 = .ok (.iinc 1 1, 3) := by decide +kernel
theorem dX6_areAllContent_41 : decode cX6_areAllContent 41 = .ok (.goto (-39), 3) := by decide +kernel
theorem dX6_areAllContent_44 : decode cX6_areAllContent 44 = .ok (.iconst 1, 1) := by decide +kernel
theorem dX6_areAllContent_45 : decode cX6_areAllContent 45 = .ok (.ireturn, 1) := by decide +kernel
theorem dX6_findArrangement_0 : decode cX6_findArrangement 0 = .ok (.aload_n 0, 1) := by decide +kernel
theorem dX6_findArrangement_1 : decode cX6_findArrangement 1 = .ok (.bipush 7, 2) := by decide +kernel
theorem dX6_findArrangement_3 : decode cX6_findArrangement 3 = .ok (.putfield 81, 3) := by decide +kernel
theorem dX6_findArrangement_6 : decode cX6_findArrangement 6 = .ok (.aload_n 0, 1) := by decide +kernel
theorem dX6_findArrangement_7 : decode cX6_findArrangement 7 = .ok (.iconst (-1), 1) := by decide +kernel
theorem dX6_findArrangement_8 : decode cX6_findArrangement 8 = .ok (.putfield 85, 3) := by decide +kernel
theorem dX6_findArrangement_11 : decode cX6_findArrangement 11 = .ok (.aload_n 0, 1) := by decide +kernel
theorem dX6_findArrangement_12 : decode cX6_findArrangement 12 = .ok (.invokevirtual 88, 3) := by decide +kernel
theorem dX6_findArrangement_15 : decode cX6_findArrangement 15 = .ok (.ifCond .eq 5, 3) := by decide +kernel
theorem dX6_findArrangement_18 : decode cX6_findArrangement 18 = .ok (.iconst 0, 1) := by decide +kernel
theorem dX6_findArrangement_19 : decode cX6_findArrangement 19 = .ok (.ireturn, 1) := by decide +kernel
theorem dX6_findArrangement_20 : decode cX6_findArrangement 20 = .ok (.aload_n 0, 1) := by decide +kernel
theorem dX6_findArrangement_21 : decode cX6_findArrangement 21 = .ok (.invokevirtual 92, 3) := by decide +kernel
theorem dX6_findArrangement_24 : decode cX6_findArrangement 24 = .ok (.aload_n 0, 1) := by decide +kernel
theorem dX6_findArrangement_25 : decode cX6_findArrangement 25 = .ok (.iconst 0, 1) := by decide +kernel
theorem dX6_findArrangement_26 : decode cX6_findArrangement 26 = .ok (.iconst 0, 1) := by decide +kernel
theorem dX6_findArrangement_27 : decode cX6_findArrangement 27 = .ok (.iconst 0, 1) := by decide +kernel
theorem dX6_findArrangement_28 : decode cX6_findArrangement 28 = .ok (.invokevirtual 95, 3) := by decide +kernel
theorem dX6_findArrangement_31 : decode cX6_findArrangement 31 = .ok (.aload_n 0, 1) := by decide +kernel
theorem dX6_findArrangement_32 : decode cX6_findArrangement 32 = .ok (.getfield 85, 3) := by decide +kernel
theorem dX6_findArrangement_35 : decode cX6_findArrangement 35 = .ok (.iconst (-1), 1) := by decide +kernel
theorem dX6_findArrangement_36 : decode cX6_findArrangement 36 = .ok (.if_icmp .eq 7, 3) := by decide +kernel
theorem dX6_findArrangement_39 : decode cX6_findArrangement 39 = .ok (.iconst 1, 1) := by decide +kernel
theorem dX6_findArrangement_40 : decode cX6_findArrangement 40 = .ok (.goto 4, 3) := by decide +kernel
theorem dX6_findArrangement_43 : decode cX6_findArrangement 43 = .ok (.iconst 0, 1) := by decide +kernel
theorem dX6_findArrangement_44 : decode cX6_findArrangement 44 = .ok (.ireturn, 1) := by decide +kernel
theorem dX6_fewestChanges_0 : decode cX6_fewestChanges 0 = .ok (.aload_n 0, 1) := by decide +kernel
theorem dX6_fewestChanges_1 : decode cX6_fewestChanges 1 = .ok (.getfield 81, 3) := by decide +kernel
theorem dX6_fewestChanges_4 : decode cX6_fewestChanges 4 = .ok (.ireturn, 1) := by decide +kernel
theorem dX6_leastRow_0 : decode cX6_leastRow 0 = .ok (.aload_n 0, 1) := by decide +kernel
theorem dX6_leastRow_1 : decode cX6_leastRow 1 = .ok (.getfield 85, 3) := by decide +kernel
theorem dX6_leastRow_4 : decode cX6_leastRow 4 = .ok (.ireturn, 1) := by decide +kernel
theorem dX6_isHopeless_0 : decode cX6_isHopeless 0 = .ok (.iconst 0, 1) := by decide +kernel
theorem dX6_isHopeless_1 : decode cX6_isHopeless 1 = .ok (.istore_n 1, 1) := by decide +kernel
theorem dX6_isHopeless_2 : decode cX6_isHopeless 2 = .ok (.iload_n 1, 1) := by decide +kernel
theorem dX6_isHopeless_3 : decode cX6_isHopeless 3 = .ok (.aload_n 0, 1) := by decide +kernel
theorem dX6_isHopeless_4 : decode cX6_isHopeless 4 = .ok (.getfield 15, 3) := by decide +kernel
theorem dX6_isHopeless_7 : decode cX6_isHopeless 7 = .ok (.invokevirtual 69, 3) := by decide +kernel
theorem dX6_isHopeless_10 : decode cX6_isHopeless 10 = .ok (.if_icmp .ge 49, 3) := by decide +kernel
theorem dX6_isHopeless_13 : decode cX6_isHopeless 13 = .ok (.aload_n 0, 1) := by decide +kernel
theorem dX6_isHopeless_14 : decode cX6_isHopeless 14 = .ok (.aload_n 0, 1) := by decide +kernel
theorem dX6_isHopeless_15 : decode cX6_isHopeless 15 = .ok (.getfield 15, 3) := by decide +kernel
theorem dX6_isHopeless_18 : decode cX6_isHopeless 18 = .ok (.iload_n 1, 1) := by decide +kernel
theorem dX6_isHopeless_19 : decode cX6_isHopeless 19 = .ok (.invokevirtual 72, 3) := by decide +kernel
theorem dX6_isHopeless_22 : decode cX6_isHopeless 22 = .ok (.invokevirtual 99, 3) := by decide +kernel
theorem dX6_isHopeless_25 : decode cX6_isHopeless 25 = .ok (.ifCond .eq 26, 3) := by decide +kernel
theorem dX6_isHopeless_28 : decode cX6_isHopeless 28 = .ok (.aload_n 0, 1) := by decide +kernel
theorem dX6_isHopeless_29 : decode cX6_isHopeless 29 = .ok (.iload_n 1, 1) := by decide +kernel
theorem dX6_isHopeless_30 : decode cX6_isHopeless 30 = .ok (.invokevirtual 102, 3) := by decide +kernel
theorem dX6_isHopeless_33 : decode cX6_isHopeless 33 = .ok (.ifCond .ne 18, 3) := by decide +kernel
theorem dX6_isHopeless_36 : decode cX6_isHopeless 36 = .ok (.aload_n 0, 1) := by decide +kernel
theorem dX6_isHopeless_37 : decode cX6_isHopeless 37 = .ok (.aload_n 0, 1) := by decide +kernel
theorem dX6_isHopeless_38 : decode cX6_isHopeless 38 = .ok (.getfield 15, 3) := by decide +kernel
theorem dX6_isHopeless_41 : decode cX6_isHopeless 41 = .ok (.iload_n 1, 1) := by decide +kernel
theorem dX6_isHopeless_42 : decode cX6_isHopeless 42 = .ok (.invokevirtual 78, 3) := by decide +kernel
theorem dX6_isHopeless_45 : decode cX6_isHopeless 45 = .ok (.invokevirtual 105, 3) := by decide +kernel
theorem dX6_isHopeless_48 : decode cX6_isHopeless 48 = .ok (.ifCond .eq 5, 3) := by decide +kernel
theorem dX6_isHopeless_51 : decode cX6_isHopeless 51 = .ok (.iconst 1, 1) := by decide +kernel
theorem dX6_isHopeless_52 : decode cX6_isHopeless 52 = .ok (.ireturn, 1) := by decide +kernel
theorem dX6_isHopeless_53 : decode cX6_isHopeless 53 = .ok (.iinc 1 1, 3) := by decide +kernel
theorem dX6_isHopeless_56 : decode cX6_isHopeless 56 = .ok (.goto (-54), 3) := by decide +kernel
theorem dX6_isHopeless_59 : decode cX6_isHopeless 59 = .ok (.iconst 0, 1) := by decide +kernel
theorem dX6_isHopeless_60 : decode cX6_isHopeless 60 = .ok (.ireturn, 1) := by decide +kernel
theorem dX6_isInhabited_0 : decode cX6_isInhabited 0 = .ok (.iconst 0, 1) := by decide +kernel
theorem dX6_isInhabited_1 : decode cX6_isInhabited 1 = .ok (.istore_n 2, 1) := by decide +kernel
theorem dX6_isInhabited_2 : decode cX6_isInhabited 2 = .ok (.iload_n 2, 1) := by decide +kernel
theorem dX6_isInhabited_3 : decode cX6_isInhabited 3 = .ok (.aload_n 0, 1) := by decide +kernel
theorem dX6_isInhabited_4 : decode cX6_isInhabited 4 = .ok (.getfield 15, 3) := by decide +kernel
theorem dX6_isInhabited_7 : decode cX6_isInhabited 7 = .ok (.invokevirtual 108, 3) := by decide +kernel
theorem dX6_isInhabited_10 : decode cX6_isInhabited 10 = .ok (.if_icmp .ge 23, 3) := by decide +kernel
theorem dX6_isInhabited_13 : decode cX6_isInhabited 13 = .ok (.aload_n 0, 1) := by decide +kernel
theorem dX6_isInhabited_14 : decode cX6_isInhabited 14 = .ok (.getfield 15, 3) := by decide +kernel
theorem dX6_isInhabited_17 : decode cX6_isInhabited 17 = .ok (.iload_n 2, 1) := by decide +kernel
theorem dX6_isInhabited_18 : decode cX6_isInhabited 18 = .ok (.invokevirtual 53, 3) := by decide +kernel
theorem dX6_isInhabited_21 : decode cX6_isInhabited 21 = .ok (.iload_n 1, 1) := by decide +kernel
theorem dX6_isInhabited_22 : decode cX6_isInhabited 22 = .ok (.if_icmp .ne 5, 3) := by decide +kernel
theorem dX6_isInhabited_25 : decode cX6_isInhabited 25 = .ok (.iconst 1, 1) := by decide +kernel
theorem dX6_isInhabited_26 : decode cX6_isInhabited 26 = .ok (.ireturn, 1) := by decide +kernel
theorem dX6_isInhabited_27 : decode cX6_isInhabited 27 = .ok (.iinc 2 1, 3) := by decide +kernel
theorem dX6_isInhabited_30 : decode cX6_isInhabited 30 = .ok (.goto (-28), 3) := by decide +kernel
theorem dX6_isInhabited_33 : decode cX6_isInhabited 33 = .ok (.iconst 0, 1) := by decide +kernel
theorem dX6_isInhabited_34 : decode cX6_isInhabited 34 = .ok (.ireturn, 1) := by decide +kernel
theorem dX6_isTorn_0 : decode cX6_isTorn 0 = .ok (.iconst 0, 1) := by decide +kernel
theorem dX6_isTorn_1 : decode cX6_isTorn 1 = .ok (.istore_n 2, 1) := by decide +kernel
theorem dX6_isTorn_2 : decode cX6_isTorn 2 = .ok (.iload_n 2, 1) := by decide +kernel
theorem dX6_isTorn_3 : decode cX6_isTorn 3 = .ok (.aload_n 0, 1) := by decide +kernel
theorem dX6_isTorn_4 : decode cX6_isTorn 4 = .ok (.getfield 15, 3) := by decide +kernel
theorem dX6_isTorn_7 : decode cX6_isTorn 7 = .ok (.invokevirtual 69, 3) := by decide +kernel
theorem dX6_isTorn_10 : decode cX6_isTorn 10 = .ok (.if_icmp .ge 49, 3) := by decide +kernel
theorem dX6_isTorn_13 : decode cX6_isTorn 13 = .ok (.aload_n 0, 1) := by decide +kernel
theorem dX6_isTorn_14 : decode cX6_isTorn 14 = .ok (.getfield 15, 3) := by decide +kernel
theorem dX6_isTorn_17 : decode cX6_isTorn 17 = .ok (.iload_n 2, 1) := by decide +kernel
