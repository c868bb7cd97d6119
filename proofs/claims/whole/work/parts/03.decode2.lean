theorem dX11_closes_37 : decode cX11_closes 37 = .ok (.putfield 116, 3) := by decide +kernel
theorem dX11_closes_40 : decode cX11_closes 40 = .ok (.return_, 1) := by decide +kernel
theorem dX11_plainNumber_0 : decode cX11_plainNumber 0 = .ok (.iconst 0, 1) := by decide +kernel
theorem dX11_plainNumber_1 : decode cX11_plainNumber 1 = .ok (.istore_n 1, 1) := by decide +kernel
theorem dX11_plainNumber_2 : decode cX11_plainNumber 2 = .ok (.iconst 0, 1) := by decide +kernel
theorem dX11_plainNumber_3 : decode cX11_plainNumber 3 = .ok (.istore_n 2, 1) := by decide +kernel
theorem dX11_plainNumber_4 : decode cX11_plainNumber 4 = .ok (.iload_n 2, 1) := by decide +kernel
theorem dX11_plainNumber_5 : decode cX11_plainNumber 5 = .ok (.iconst 4, 1) := by decide +kernel
theorem dX11_plainNumber_6 : decode cX11_plainNumber 6 = .ok (.if_icmp .ge 42, 3) := by decide +kernel
theorem dX11_plainNumber_9 : decode cX11_plainNumber 9 = .ok (.aload_n 0, 1) := by decide +kernel
theorem dX11_plainNumber_10 : decode cX11_plainNumber 10 = .ok (.invokevirtual 106, 3) := by decide +kernel
theorem dX11_plainNumber_13 : decode cX11_plainNumber 13 = .ok (.invokestatic 125, 3) := by decide +kernel
theorem dX11_plainNumber_16 : decode cX11_plainNumber 16 = .ok (.ifCond .eq 32, 3) := by decide +kernel
theorem dX11_plainNumber_19 : decode cX11_plainNumber 19 = .ok (.bipush 10, 2) := by decide +kernel
theorem dX11_plainNumber_21 : decode cX11_plainNumber 21 = .ok (.iload_n 1, 1) := by decide +kernel
theorem dX11_plainNumber_22 : decode cX11_plainNumber 22 = .ok (.imul, 1) := by decide +kernel
theorem dX11_plainNumber_23 : decode cX11_plainNumber 23 = .ok (.aload_n 0, 1) := by decide +kernel
theorem dX11_plainNumber_24 : decode cX11_plainNumber 24 = .ok (.invokevirtual 106, 3) := by decide +kernel
theorem dX11_plainNumber_27 : decode cX11_plainNumber 27 = .ok (.iadd, 1) := by decide +kernel
theorem dX11_plainNumber_28 : decode cX11_plainNumber 28 = .ok (.bipush 48, 2) := by decide +kernel
theorem dX11_plainNumber_30 : decode cX11_plainNumber 30 = .ok (.isub, 1) := by decide +kernel
theorem dX11_plainNumber_31 : decode cX11_plainNumber 31 = .ok (.istore_n 1, 1) := by decide +kernel
theorem dX11_plainNumber_32 : decode cX11_plainNumber 32 = .ok (.aload_n 0, 1) := by decide +kernel
theorem dX11_plainNumber_33 : decode cX11_plainNumber 33 = .ok (.dup, 1) := by decide +kernel
theorem dX11_plainNumber_34 : decode cX11_plainNumber 34 = .ok (.getfield 103, 3) := by decide +kernel
theorem dX11_plainNumber_37 : decode cX11_plainNumber 37 = .ok (.iconst 1, 1) := by decide +kernel
theorem dX11_plainNumber_38 : decode cX11_plainNumber 38 = .ok (.iadd, 1) := by decide +kernel
theorem dX11_plainNumber_39 : decode cX11_plainNumber 39 = .ok (.putfield 103, 3) := by decide +kernel
theorem dX11_plainNumber_42 : decode cX11_plainNumber 42 = .ok (.iinc 2 1, 3) := by decide +kernel
theorem dX11_plainNumber_45 : decode cX11_plainNumber 45 = .ok (.goto (-41), 3) := by decide +kernel
theorem dX11_plainNumber_48 : decode cX11_plainNumber 48 = .ok (.aload_n 0, 1) := by decide +kernel
theorem dX11_plainNumber_49 : decode cX11_plainNumber 49 = .ok (.invokevirtual 106, 3) := by decide +kernel
theorem dX11_plainNumber_52 : decode cX11_plainNumber 52 = .ok (.invokestatic 125, 3) := by decide +kernel
theorem dX11_plainNumber_55 : decode cX11_plainNumber 55 = .ok (.ifCond .eq 7, 3) := by decide +kernel
theorem dX11_plainNumber_58 : decode cX11_plainNumber 58 = .ok (.aload_n 0, 1) := by decide +kernel
theorem dX11_plainNumber_59 : decode cX11_plainNumber 59 = .ok (.invokevirtual 119, 3) := by decide +kernel
theorem dX11_plainNumber_62 : decode cX11_plainNumber 62 = .ok (.iload_n 1, 1) := by decide +kernel
theorem dX11_plainNumber_63 : decode cX11_plainNumber 63 = .ok (.ireturn, 1) := by decide +kernel
theorem dX11_atom_0 : decode cX11_atom 0 = .ok (.aload_n 0, 1) := by decide +kernel
theorem dX11_atom_1 : decode cX11_atom 1 = .ok (.invokevirtual 122, 3) := by decide +kernel
theorem dX11_atom_4 : decode cX11_atom 4 = .ok (.istore_n 1, 1) := by decide +kernel
theorem dX11_atom_5 : decode cX11_atom 5 = .ok (.iload_n 1, 1) := by decide +kernel
theorem dX11_atom_6 : decode cX11_atom 6 = .ok (.invokestatic 125, 3) := by decide +kernel
theorem dX11_atom_9 : decode cX11_atom 9 = .ok (.ifCond .eq 15, 3) := by decide +kernel
theorem dX11_atom_12 : decode cX11_atom 12 = .ok (.aload_n 0, 1) := by decide +kernel
theorem dX11_atom_13 : decode cX11_atom 13 = .ok (.iconst 0, 1) := by decide +kernel
theorem dX11_atom_14 : decode cX11_atom 14 = .ok (.aload_n 0, 1) := by decide +kernel
theorem dX11_atom_15 : decode cX11_atom 15 = .ok (.invokevirtual 129, 3) := by decide +kernel
theorem dX11_atom_18 : decode cX11_atom 18 = .ok (.invokevirtual 132, 3) := by decide +kernel
theorem dX11_atom_21 : decode cX11_atom 21 = .ok (.goto 68, 3) := by decide +kernel
theorem dX11_atom_24 : decode cX11_atom 24 = .ok (.iload_n 1, 1) := by decide +kernel
theorem dX11_atom_25 : decode cX11_atom 25 = .ok (.invokestatic 136, 3) := by decide +kernel
theorem dX11_atom_28 : decode cX11_atom 28 = .ok (.iconst (-1), 1) := by decide +kernel
theorem dX11_atom_29 : decode cX11_atom 29 = .ok (.if_icmp .eq 25, 3) := by decide +kernel
theorem dX11_atom_32 : decode cX11_atom 32 = .ok (.aload_n 0, 1) := by decide +kernel
theorem dX11_atom_33 : decode cX11_atom 33 = .ok (.dup, 1) := by decide +kernel
theorem dX11_atom_34 : decode cX11_atom 34 = .ok (.getfield 103, 3) := by decide +kernel
theorem dX11_atom_37 : decode cX11_atom 37 = .ok (.iconst 1, 1) := by decide +kernel
theorem dX11_atom_38 : decode cX11_atom 38 = .ok (.iadd, 1) := by decide +kernel
theorem dX11_atom_39 : decode cX11_atom 39 = .ok (.putfield 103, 3) := by decide +kernel
theorem dX11_atom_42 : decode cX11_atom 42 = .ok (.aload_n 0, 1) := by decide +kernel
theorem dX11_atom_43 : decode cX11_atom 43 = .ok (.iconst 1, 1) := by decide +kernel
theorem dX11_atom_44 : decode cX11_atom 44 = .ok (.iload_n 1, 1) := by decide +kernel
theorem dX11_atom_45 : decode cX11_atom 45 = .ok (.invokestatic 136, 3) := by decide +kernel
theorem dX11_atom_48 : decode cX11_atom 48 = .ok (.invokevirtual 132, 3) := by decide +kernel
theorem dX11_atom_51 : decode cX11_atom 51 = .ok (.goto 38, 3) := by decide +kernel
theorem dX11_atom_54 : decode cX11_atom 54 = .ok (.iload_n 1, 1) := by decide +kernel
theorem dX11_atom_55 : decode cX11_atom 55 = .ok (.bipush 91, 2) := by decide +kernel
theorem dX11_atom_57 : decode cX11_atom 57 = .ok (.if_icmp .ne 28, 3) := by decide +kernel
theorem dX11_atom_60 : decode cX11_atom 60 = .ok (.aload_n 0, 1) := by decide +kernel
theorem dX11_atom_61 : decode cX11_atom 61 = .ok (.invokevirtual 140, 3) := by decide +kernel
theorem dX11_atom_64 : decode cX11_atom 64 = .ok (.aload_n 0, 1) := by decide +kernel
theorem dX11_atom_65 : decode cX11_atom 65 = .ok (.getfield 110, 3) := by decide +kernel
theorem dX11_atom_68 : decode cX11_atom 68 = .ok (.iconst (-1), 1) := by decide +kernel
theorem dX11_atom_69 : decode cX11_atom 69 = .ok (.if_icmp .ne 20, 3) := by decide +kernel
theorem dX11_atom_72 : decode cX11_atom 72 = .ok (.aload_n 0, 1) := by decide +kernel
theorem dX11_atom_73 : decode cX11_atom 73 = .ok (.invokevirtual 143, 3) := by decide +kernel
theorem dX11_atom_76 : decode cX11_atom 76 = .ok (.aload_n 0, 1) := by decide +kernel
theorem dX11_atom_77 : decode cX11_atom 77 = .ok (.bipush 93, 2) := by decide +kernel
theorem dX11_atom_79 : decode cX11_atom 79 = .ok (.invokevirtual 146, 3) := by decide +kernel
theorem dX11_atom_82 : decode cX11_atom 82 = .ok (.goto 7, 3) := by decide +kernel
theorem dX11_atom_85 : decode cX11_atom 85 = .ok (.aload_n 0, 1) := by decide +kernel
theorem dX11_atom_86 : decode cX11_atom 86 = .ok (.invokevirtual 119, 3) := by decide +kernel
theorem dX11_atom_89 : decode cX11_atom 89 = .ok (.return_, 1) := by decide +kernel
theorem dX11_term_0 : decode cX11_term 0 = .ok (.aload_n 0, 1) := by decide +kernel
theorem dX11_term_1 : decode cX11_term 1 = .ok (.invokevirtual 150, 3) := by decide +kernel
theorem dX11_term_4 : decode cX11_term 4 = .ok (.aload_n 0, 1) := by decide +kernel
theorem dX11_term_5 : decode cX11_term 5 = .ok (.getfield 110, 3) := by decide +kernel
theorem dX11_term_8 : decode cX11_term 8 = .ok (.iconst (-1), 1) := by decide +kernel
theorem dX11_term_9 : decode cX11_term 9 = .ok (.if_icmp .ne 10, 3) := by decide +kernel
theorem dX11_term_12 : decode cX11_term 12 = .ok (.aload_n 0, 1) := by decide +kernel
theorem dX11_term_13 : decode cX11_term 13 = .ok (.invokevirtual 122, 3) := by decide +kernel
theorem dX11_term_16 : decode cX11_term 16 = .ok (.goto 4, 3) := by decide +kernel
theorem dX11_term_19 : decode cX11_term 19 = .ok (.iconst (-1), 1) := by decide +kernel
theorem dX11_term_20 : decode cX11_term 20 = .ok (.istore_n 1, 1) := by decide +kernel
theorem dX11_term_21 : decode cX11_term 21 = .ok (.iload_n 1, 1) := by decide +kernel
theorem dX11_term_22 : decode cX11_term 22 = .ok (.bipush 42, 2) := by decide +kernel
theorem dX11_term_24 : decode cX11_term 24 = .ok (.if_icmp .eq 9, 3) := by decide +kernel
theorem dX11_term_27 : decode cX11_term 27 = .ok (.iload_n 1, 1) := by decide +kernel
theorem dX11_term_28 : decode cX11_term 28 = .ok (.bipush 47, 2) := by decide +kernel
theorem dX11_term_30 : decode cX11_term 30 = .ok (.if_icmp .ne 53, 3) := by decide +kernel
theorem dX11_term_33 : decode cX11_term 33 = .ok (.aload_n 0, 1) := by decide +kernel
theorem dX11_term_34 : decode cX11_term 34 = .ok (.dup, 1) := by decide +kernel
theorem dX11_term_35 : decode cX11_term 35 = .ok (.getfield 103, 3) := by decide +kernel
theorem dX11_term_38 : decode cX11_term 38 = .ok (.iconst 1, 1) := by decide +kernel
theorem dX11_term_39 : decode cX11_term 39 = .ok (.iadd, 1) := by decide +kernel
theorem dX11_term_40 : decode cX11_term 40 = .ok (.putfield 103, 3) := by decide +kernel
theorem dX11_term_43 : decode cX11_term 43 = .ok (.aload_n 0, 1) := by decide +kernel
theorem dX11_term_44 : decode cX11_term 44 = .ok (.invokevirtual 150, 3) := by decide +kernel
theorem dX11_term_47 : decode cX11_term 47 = .ok (.aload_n 0, 1) := by decide +kernel
theorem dX11_term_48 : decode cX11_term 48 = .ok (.iload_n 1, 1) := by decide +kernel
theorem dX11_term_49 : decode cX11_term 49 = .ok (.bipush 42, 2) := by decide +kernel
theorem dX11_term_51 : decode cX11_term 51 = .ok (.if_icmp .ne 7, 3) := by decide +kernel
theorem dX11_term_54 : decode cX11_term 54 = .ok (.iconst 4, 1) := by decide +kernel
theorem dX11_term_55 : decode cX11_term 55 = .ok (.goto 4, 3) := by decide +kernel
theorem dX11_term_58 : decode cX11_term 58 = .ok (.iconst 5, 1) := by decide +kernel
theorem dX11_term_59 : decode cX11_term 59 = .ok (.iconst 0, 1) := by decide +kernel
theorem dX11_term_60 : decode cX11_term 60 = .ok (.invokevirtual 132, 3) := by decide +kernel
theorem dX11_term_63 : decode cX11_term 63 = .ok (.aload_n 0, 1) := by decide +kernel
theorem dX11_term_64 : decode cX11_term 64 = .ok (.getfield 110, 3) := by decide +kernel
theorem dX11_term_67 : decode cX11_term 67 = .ok (.iconst (-1), 1) := by decide +kernel
theorem dX11_term_68 : decode cX11_term 68 = .ok (.if_icmp .ne 10, 3) := by decide +kernel
theorem dX11_term_71 : decode cX11_term 71 = .ok (.aload_n 0, 1) := by decide +kernel
theorem dX11_term_72 : decode cX11_term 72 = .ok (.invokevirtual 122, 3) := by decide +kernel
theorem dX11_term_75 : decode cX11_term 75 = .ok (.goto 4, 3) := by decide +kernel
theorem dX11_term_78 : decode cX11_term 78 = .ok (.iconst (-1), 1) := by decide +kernel
theorem dX11_term_79 : decode cX11_term 79 = .ok (.istore_n 1, 1) := by decide +kernel
theorem dX11_term_80 : decode cX11_term 80 = .ok (.goto (-59), 3) := by decide +kernel
theorem dX11_term_83 : decode cX11_term 83 = .ok (.return_, 1) := by decide +kernel
theorem dX11_sum_0 : decode cX11_sum 0 = .ok (.aload_n 0, 1) := by decide +kernel
theorem dX11_sum_1 : decode cX11_sum 1 = .ok (.invokevirtual 153, 3) := by decide +kernel
theorem dX11_sum_4 : decode cX11_sum 4 = .ok (.aload_n 0, 1) := by decide +kernel
theorem dX11_sum_5 : decode cX11_sum 5 = .ok (.getfield 110, 3) := by decide +kernel
theorem dX11_sum_8 : decode cX11_sum 8 = .ok (.iconst (-1), 1) := by decide +kernel
theorem dX11_sum_9 : decode cX11_sum 9 = .ok (.if_icmp .ne 10, 3) := by decide +kernel
theorem dX11_sum_12 : decode cX11_sum 12 = .ok (.aload_n 0, 1) := by decide +kernel
theorem dX11_sum_13 : decode cX11_sum 13 = .ok (.invokevirtual 122, 3) := by decide +kernel
theorem dX11_sum_16 : decode cX11_sum 16 = .ok (.goto 4, 3) := by decide +kernel
theorem dX11_sum_19 : decode cX11_sum 19 = .ok (.iconst (-1), 1) := by decide +kernel
theorem dX11_sum_20 : decode cX11_sum 20 = .ok (.istore_n 1, 1) := by decide +kernel
theorem dX11_sum_21 : decode cX11_sum 21 = .ok (.iload_n 1, 1) := by decide +kernel
theorem dX11_sum_22 : decode cX11_sum 22 = .ok (.bipush 43, 2) := by decide +kernel
theorem dX11_sum_24 : decode cX11_sum 24 = .ok (.if_icmp .eq 9, 3) := by decide +kernel
theorem dX11_sum_27 : decode cX11_sum 27 = .ok (.iload_n 1, 1) := by decide +kernel
theorem dX11_sum_28 : decode cX11_sum 28 = .ok (.bipush 45, 2) := by decide +kernel
theorem dX11_sum_30 : decode cX11_sum 30 = .ok (.if_icmp .ne 53, 3) := by decide +kernel
theorem dX11_sum_33 : decode cX11_sum 33 = .ok (.aload_n 0, 1) := by decide +kernel
theorem dX11_sum_34 : decode cX11_sum 34 = .ok (.dup, 1) := by decide +kernel
theorem dX11_sum_35 : decode cX11_sum 35 = .ok (.getfield 103, 3) := by decide +kernel
theorem dX11_sum_38 : decode cX11_sum 38 = .ok (.iconst 1, 1) := by decide +kernel
theorem dX11_sum_39 : decode cX11_sum 39 = .ok (.iadd, 1) := by decide +kernel
theorem dX11_sum_40 : decode cX11_sum 40 = .ok (.putfield 103, 3) := by decide +kernel
theorem dX11_sum_43 : decode cX11_sum 43 = .ok (.aload_n 0, 1) := by decide +kernel
theorem dX11_sum_44 : decode cX11_sum 44 = .ok (.invokevirtual 153, 3) := by decide +kernel
theorem dX11_sum_47 : decode cX11_sum 47 = .ok (.aload_n 0, 1) := by decide +kernel
theorem dX11_sum_48 : decode cX11_sum 48 = .ok (.iload_n 1, 1) := by decide +kernel
theorem dX11_sum_49 : decode cX11_sum 49 = .ok (.bipush 43, 2) := by decide +kernel
theorem dX11_sum_51 : decode cX11_sum 51 = .ok (.if_icmp .ne 7, 3) := by decide +kernel
theorem dX11_sum_54 : decode cX11_sum 54 = .ok (.iconst 2, 1) := by decide +kernel
theorem dX11_sum_55 : decode cX11_sum 55 = .ok (.goto 4, 3) := by decide +kernel
theorem dX11_sum_58 : decode cX11_sum 58 = .ok (.iconst 3, 1) := by decide +kernel
theorem dX11_sum_59 : decode cX11_sum 59 = .ok (.iconst 0, 1) := by decide +kernel
theorem dX11_sum_60 : decode cX11_sum 60 = .ok (.invokevirtual 132, 3) := by decide +kernel
theorem dX11_sum_63 : decode cX11_sum 63 = .ok (.aload_n 0, 1) := by decide +kernel
theorem dX11_sum_64 : decode cX11_sum 64 = .ok (.getfield 110, 3) := by decide +kernel
theorem dX11_sum_67 : decode cX11_sum 67 = .ok (.iconst (-1), 1) := by decide +kernel
theorem dX11_sum_68 : decode cX11_sum 68 = .ok (.if_icmp .ne 10, 3) := by decide +kernel
theorem dX11_sum_71 : decode cX11_sum 71 = .ok (.aload_n 0, 1) := by decide +kernel
theorem dX11_sum_72 : decode cX11_sum 72 = .ok (.invokevirtual 122, 3) := by decide +kernel
theorem dX11_sum_75 : decode cX11_sum 75 = .ok (.goto 4, 3) := by decide +kernel
theorem dX11_sum_78 : decode cX11_sum 78 = .ok (.iconst (-1), 1) := by decide +kernel
theorem dX11_sum_79 : decode cX11_sum 79 = .ok (.istore_n 1, 1) := by decide +kernel
theorem dX11_sum_80 : decode cX11_sum 80 = .ok (.goto (-59), 3) := by decide +kernel
theorem dX11_sum_83 : decode cX11_sum 83 = .ok (.return_, 1) := by decide +kernel
theorem dX11_isSign_0 : decode cX11_isSign 0 = .ok (.iload_n 0, 1) := by decide +kernel
theorem dX11_isSign_1 : decode cX11_isSign 1 = .ok (.bipush 61, 2) := by decide +kernel
theorem dX11_isSign_3 : decode cX11_isSign 3 = .ok (.if_icmp .eq 15, 3) := by decide +kernel
theorem dX11_isSign_6 : decode cX11_isSign 6 = .ok (.iload_n 0, 1) := by decide +kernel
theorem dX11_isSign_7 : decode cX11_isSign 7 = .ok (.bipush 60, 2) := by decide +kernel
theorem dX11_isSign_9 : decode cX11_isSign 9 = .ok (.if_icmp .eq 9, 3) := by decide +kernel
theorem dX11_isSign_12 : decode cX11_isSign 12 = .ok (.iload_n 0, 1) := by decide +kernel
theorem dX11_isSign_13 : decode cX11_isSign 13 = .ok (.bipush 62, 2) := by decide +kernel
theorem dX11_isSign_15 : decode cX11_isSign 15 = .ok (.if_icmp .ne 7, 3) := by decide +kernel
theorem dX11_isSign_18 : decode cX11_isSign 18 = .ok (.iconst 1, 1) := by decide +kernel
theorem dX11_isSign_19 : decode cX11_isSign 19 = .ok (.goto 4, 3) := by decide +kernel
theorem dX11_isSign_22 : decode cX11_isSign 22 = .ok (.iconst 0, 1) := by decide +kernel
theorem dX11_isSign_23 : decode cX11_isSign 23 = .ok (.ireturn, 1) := by decide +kernel
theorem dX11_compare_0 : decode cX11_compare 0 = .ok (.aload_n 0, 1) := by decide +kernel
theorem dX11_compare_1 : decode cX11_compare 1 = .ok (.getfield 110, 3) := by decide +kernel
theorem dX11_compare_4 : decode cX11_compare 4 = .ok (.iconst (-1), 1) := by decide +kernel
theorem dX11_compare_5 : decode cX11_compare 5 = .ok (.if_icmp .ne 10, 3) := by decide +kernel
theorem dX11_compare_8 : decode cX11_compare 8 = .ok (.aload_n 0, 1) := by decide +kernel
theorem dX11_compare_9 : decode cX11_compare 9 = .ok (.invokevirtual 122, 3) := by decide +kernel
theorem dX11_compare_12 : decode cX11_compare 12 = .ok (.goto 4, 3) := by decide +kernel
theorem dX11_compare_15 : decode cX11_compare 15 = .ok (.iconst (-1), 1) := by decide +kernel
theorem dX11_compare_16 : decode cX11_compare 16 = .ok (.istore_n 1, 1) := by decide +kernel
theorem dX11_compare_17 : decode cX11_compare 17 = .ok (.iload_n 1, 1) := by decide +kernel
theorem dX11_compare_18 : decode cX11_compare 18 = .ok (.invokestatic 156, 3) := by decide +kernel
theorem dX11_compare_21 : decode cX11_compare 21 = .ok (.ifCond .ne 8, 3) := by decide +kernel
theorem dX11_compare_24 : decode cX11_compare 24 = .ok (.aload_n 0, 1) := by decide +kernel
theorem dX11_compare_25 : decode cX11_compare 25 = .ok (.invokevirtual 119, 3) := by decide +kernel
theorem dX11_compare_28 : decode cX11_compare 28 = .ok (.return_, 1) := by decide +kernel
theorem dX11_compare_29 : decode cX11_compare 29 = .ok (.aload_n 0, 1) := by decide +kernel
theorem dX11_compare_30 : decode cX11_compare 30 = .ok (.dup, 1) := by decide +kernel
theorem dX11_compare_31 : decode cX11_compare 31 = .ok (.getfield 103, 3) := by decide +kernel
theorem dX11_compare_34 : decode cX11_compare 34 = .ok (.iconst 1, 1) := by decide +kernel
theorem dX11_compare_35 : decode cX11_compare 35 = .ok (.iadd, 1) := by decide +kernel
theorem dX11_compare_36 : decode cX11_compare 36 = .ok (.putfield 103, 3) := by decide +kernel
theorem dX11_compare_39 : decode cX11_compare 39 = .ok (.aload_n 0, 1) := by decide +kernel
theorem dX11_compare_40 : decode cX11_compare 40 = .ok (.invokevirtual 143, 3) := by decide +kernel
theorem dX11_compare_43 : decode cX11_compare 43 = .ok (.aload_n 0, 1) := by decide +kernel
theorem dX11_compare_44 : decode cX11_compare 44 = .ok (.iload_n 1, 1) := by decide +kernel
theorem dX11_compare_45 : decode cX11_compare 45 = .ok (.bipush 61, 2) := by decide +kernel
theorem dX11_compare_47 : decode cX11_compare 47 = .ok (.if_icmp .ne 8, 3) := by decide +kernel
theorem dX11_compare_50 : decode cX11_compare 50 = .ok (.bipush 6, 2) := by decide +kernel
theorem dX11_compare_52 : decode cX11_compare 52 = .ok (.goto 16, 3) := by decide +kernel
theorem dX11_compare_55 : decode cX11_compare 55 = .ok (.iload_n 1, 1) := by decide +kernel
theorem dX11_compare_56 : decode cX11_compare 56 = .ok (.bipush 60, 2) := by decide +kernel
theorem dX11_compare_58 : decode cX11_compare 58 = .ok (.if_icmp .ne 8, 3) := by decide +kernel
theorem dX11_compare_61 : decode cX11_compare 61 = .ok (.bipush 7, 2) := by decide +kernel
theorem dX11_compare_63 : decode cX11_compare 63 = .ok (.goto 5, 3) := by decide +kernel
theorem dX11_compare_66 : decode cX11_compare 66 = .ok (.bipush 8, 2) := by decide +kernel
theorem dX11_compare_68 : decode cX11_compare 68 = .ok (.iconst 0, 1) := by decide +kernel
theorem dX11_compare_69 : decode cX11_compare 69 = .ok (.invokevirtual 132, 3) := by decide +kernel
theorem dX11_compare_72 : decode cX11_compare 72 = .ok (.return_, 1) := by decide +kernel
theorem dX11_unit_0 : decode cX11_unit 0 = .ok (.aload_n 0, 1) := by decide +kernel
theorem dX11_unit_1 : decode cX11_unit 1 = .ok (.invokevirtual 122, 3) := by decide +kernel
theorem dX11_unit_4 : decode cX11_unit 4 = .ok (.istore_n 1, 1) := by decide +kernel
theorem dX11_unit_5 : decode cX11_unit 5 = .ok (.iload_n 1, 1) := by decide +kernel
theorem dX11_unit_6 : decode cX11_unit 6 = .ok (.bipush 33, 2) := by decide +kernel
theorem dX11_unit_8 : decode cX11_unit 8 = .ok (.if_icmp .ne 39, 3) := by decide +kernel
theorem dX11_unit_11 : decode cX11_unit 11 = .ok (.aload_n 0, 1) := by decide +kernel
theorem dX11_unit_12 : decode cX11_unit 12 = .ok (.invokevirtual 140, 3) := by decide +kernel
theorem dX11_unit_15 : decode cX11_unit 15 = .ok (.aload_n 0, 1) := by decide +kernel
theorem dX11_unit_16 : decode cX11_unit 16 = .ok (.getfield 110, 3) := by decide +kernel
theorem dX11_unit_19 : decode cX11_unit 19 = .ok (.iconst (-1), 1) := by decide +kernel
theorem dX11_unit_20 : decode cX11_unit 20 = .ok (.if_icmp .ne 74, 3) := by decide +kernel
theorem dX11_unit_23 : decode cX11_unit 23 = .ok (.aload_n 0, 1) := by decide +kernel
theorem dX11_unit_24 : decode cX11_unit 24 = .ok (.invokevirtual 159, 3) := by decide +kernel
theorem dX11_unit_27 : decode cX11_unit 27 = .ok (.aload_n 0, 1) := by decide +kernel
theorem dX11_unit_28 : decode cX11_unit 28 = .ok (.bipush 9, 2) := by decide +kernel
theorem dX11_unit_30 : decode cX11_unit 30 = .ok (.iconst 0, 1) := by decide +kernel
theorem dX11_unit_31 : decode cX11_unit 31 = .ok (.invokevirtual 132, 3) := by decide +kernel
theorem dX11_unit_34 : decode cX11_unit 34 = .ok (.aload_n 0, 1) := by decide +kernel
theorem dX11_unit_35 : decode cX11_unit 35 = .ok (.dup, 1) := by decide +kernel
theorem dX11_unit_36 : decode cX11_unit 36 = .ok (.getfield 116, 3) := by decide +kernel
theorem dX11_unit_39 : decode cX11_unit 39 = .ok (.iconst 1, 1) := by decide +kernel
theorem dX11_unit_40 : decode cX11_unit 40 = .ok (.isub, 1) := by decide +kernel
theorem dX11_unit_41 : decode cX11_unit 41 = .ok (.putfield 116, 3) := by decide +kernel
theorem dX11_unit_44 : decode cX11_unit 44 = .ok (.goto 50, 3) := by decide +kernel
theorem dX11_unit_47 : decode cX11_unit 47 = .ok (.iload_n 1, 1) := by decide +kernel
theorem dX11_unit_48 : decode cX11_unit 48 = .ok (.bipush 40, 2) := by decide +kernel
theorem dX11_unit_50 : decode cX11_unit 50 = .ok (.if_icmp .ne 28, 3) := by decide +kernel
theorem dX11_unit_53 : decode cX11_unit 53 = .ok (.aload_n 0, 1) := by decide +kernel
theorem dX11_unit_54 : decode cX11_unit 54 = .ok (.invokevirtual 140, 3) := by decide +kernel
theorem dX11_unit_57 : decode cX11_unit 57 = .ok (.aload_n 0, 1) := by decide +kernel
theorem dX11_unit_58 : decode cX11_unit 58 = .ok (.getfield 110, 3) := by decide +kernel
theorem dX11_unit_61 : decode cX11_unit 61 = .ok (.iconst (-1), 1) := by decide +kernel
theorem dX11_unit_62 : decode cX11_unit 62 = .ok (.if_icmp .ne 32, 3) := by decide +kernel
theorem dX11_unit_65 : decode cX11_unit 65 = .ok (.aload_n 0, 1) := by decide +kernel
theorem dX11_unit_66 : decode cX11_unit 66 = .ok (.invokevirtual 162, 3) := by decide +kernel
theorem dX11_unit_69 : decode cX11_unit 69 = .ok (.aload_n 0, 1) := by decide +kernel
theorem dX11_unit_70 : decode cX11_unit 70 = .ok (.bipush 41, 2) := by decide +kernel
theorem dX11_unit_72 : decode cX11_unit 72 = .ok (.invokevirtual 146, 3) := by decide +kernel
theorem dX11_unit_75 : decode cX11_unit 75 = .ok (.goto 19, 3) := by decide +kernel
theorem dX11_unit_78 : decode cX11_unit 78 = .ok (.aload_n 0, 1) := by decide +kernel
theorem dX11_unit_79 : decode cX11_unit 79 = .ok (.invokevirtual 143, 3) := by decide +kernel
theorem dX11_unit_82 : decode cX11_unit 82 = .ok (.aload_n 0, 1) := by decide +kernel
theorem dX11_unit_83 : decode cX11_unit 83 = .ok (.getfield 110, 3) := by decide +kernel
theorem dX11_unit_86 : decode cX11_unit 86 = .ok (.iconst (-1), 1) := by decide +kernel
theorem dX11_unit_87 : decode cX11_unit 87 = .ok (.if_icmp .ne 7, 3) := by decide +kernel
theorem dX11_unit_90 : decode cX11_unit 90 = .ok (.aload_n 0, 1) := by decide +kernel
theorem dX11_unit_91 : decode cX11_unit 91 = .ok (.invokevirtual 165, 3) := by decide +kernel
theorem dX11_unit_94 : decode cX11_unit 94 = .ok (.return_, 1) := by decide +kernel
theorem dX11_goOnAnd_0 : decode cX11_goOnAnd 0 = .ok (.aload_n 0, 1) := by decide +kernel
theorem dX11_goOnAnd_1 : decode cX11_goOnAnd 1 = .ok (.getfield 110, 3) := by decide +kernel
theorem dX11_goOnAnd_4 : decode cX11_goOnAnd 4 = .ok (.iconst (-1), 1) := by decide +kernel
theorem dX11_goOnAnd_5 : decode cX11_goOnAnd 5 = .ok (.if_icmp .ne 36, 3) := by decide +kernel
theorem dX11_goOnAnd_8 : decode cX11_goOnAnd 8 = .ok (.aload_n 0, 1) := by decide +kernel
theorem dX11_goOnAnd_9 : decode cX11_goOnAnd 9 = .ok (.invokevirtual 122, 3) := by decide +kernel
theorem dX11_goOnAnd_12 : decode cX11_goOnAnd 12 = .ok (.bipush 38, 2) := by decide +kernel
theorem dX11_goOnAnd_14 : decode cX11_goOnAnd 14 = .ok (.if_icmp .ne 27, 3) := by decide +kernel
theorem dX11_goOnAnd_17 : decode cX11_goOnAnd 17 = .ok (.aload_n 0, 1) := by decide +kernel
theorem dX11_goOnAnd_18 : decode cX11_goOnAnd 18 = .ok (.dup, 1) := by decide +kernel
theorem dX11_goOnAnd_19 : decode cX11_goOnAnd 19 = .ok (.getfield 103, 3) := by decide +kernel
theorem dX11_goOnAnd_22 : decode cX11_goOnAnd 22 = .ok (.iconst 1, 1) := by decide +kernel
theorem dX11_goOnAnd_23 : decode cX11_goOnAnd 23 = .ok (.iadd, 1) := by decide +kernel
theorem dX11_goOnAnd_24 : decode cX11_goOnAnd 24 = .ok (.putfield 103, 3) := by decide +kernel
theorem dX11_goOnAnd_27 : decode cX11_goOnAnd 27 = .ok (.aload_n 0, 1) := by decide +kernel
theorem dX11_goOnAnd_28 : decode cX11_goOnAnd 28 = .ok (.invokevirtual 159, 3) := by decide +kernel
theorem dX11_goOnAnd_31 : decode cX11_goOnAnd 31 = .ok (.aload_n 0, 1) := by decide +kernel
theorem dX11_goOnAnd_32 : decode cX11_goOnAnd 32 = .ok (.bipush 10, 2) := by decide +kernel
theorem dX11_goOnAnd_34 : decode cX11_goOnAnd 34 = .ok (.iconst 0, 1) := by decide +kernel
theorem dX11_goOnAnd_35 : decode cX11_goOnAnd 35 = .ok (.invokevirtual 132, 3) := by decide +kernel
theorem dX11_goOnAnd_38 : decode cX11_goOnAnd 38 = .ok (.goto (-38), 3) := by decide +kernel
theorem dX11_goOnAnd_41 : decode cX11_goOnAnd 41 = .ok (.return_, 1) := by decide +kernel
theorem dX11_goOnOr_0 : decode cX11_goOnOr 0 = .ok (.aload_n 0, 1) := by decide +kernel
theorem dX11_goOnOr_1 : decode cX11_goOnOr 1 = .ok (.getfield 110, 3) := by decide +kernel
theorem dX11_goOnOr_4 : decode cX11_goOnOr 4 = .ok (.iconst (-1), 1) := by decide +kernel
theorem dX11_goOnOr_5 : decode cX11_goOnOr 5 = .ok (.if_icmp .ne 40, 3) := by decide +kernel
theorem dX11_goOnOr_8 : decode cX11_goOnOr 8 = .ok (.aload_n 0, 1) := by decide +kernel
theorem dX11_goOnOr_9 : decode cX11_goOnOr 9 = .ok (.invokevirtual 122, 3) := by decide +kernel
theorem dX11_goOnOr_12 : decode cX11_goOnOr 12 = .ok (.bipush 124, 2) := by decide +kernel
theorem dX11_goOnOr_14 : decode cX11_goOnOr 14 = .ok (.if_icmp .ne 31, 3) := by decide +kernel
theorem dX11_goOnOr_17 : decode cX11_goOnOr 17 = .ok (.aload_n 0, 1) := by decide +kernel
theorem dX11_goOnOr_18 : decode cX11_goOnOr 18 = .ok (.dup, 1) := by decide +kernel
theorem dX11_goOnOr_19 : decode cX11_goOnOr 19 = .ok (.getfield 103, 3) := by decide +kernel
theorem dX11_goOnOr_22 : decode cX11_goOnOr 22 = .ok (.iconst 1, 1) := by decide +kernel
theorem dX11_goOnOr_23 : decode cX11_goOnOr 23 = .ok (.iadd, 1) := by decide +kernel
theorem dX11_goOnOr_24 : decode cX11_goOnOr 24 = .ok (.putfield 103, 3) := by decide +kernel
theorem dX11_goOnOr_27 : decode cX11_goOnOr 27 = .ok (.aload_n 0, 1) := by decide +kernel
theorem dX11_goOnOr_28 : decode cX11_goOnOr 28 = .ok (.invokevirtual 159, 3) := by decide +kernel
theorem dX11_goOnOr_31 : decode cX11_goOnOr 31 = .ok (.aload_n 0, 1) := by decide +kernel
theorem dX11_goOnOr_32 : decode cX11_goOnOr 32 = .ok (.invokevirtual 168, 3) := by decide +kernel
theorem dX11_goOnOr_35 : decode cX11_goOnOr 35 = .ok (.aload_n 0, 1) := by decide +kernel
theorem dX11_goOnOr_36 : decode cX11_goOnOr 36 = .ok (.bipush 11, 2) := by decide +kernel
theorem dX11_goOnOr_38 : decode cX11_goOnOr 38 = .ok (.iconst 0, 1) := by decide +kernel
theorem dX11_goOnOr_39 : decode cX11_goOnOr 39 = .ok (.invokevirtual 132, 3) := by decide +kernel
theorem dX11_goOnOr_42 : decode cX11_goOnOr 42 = .ok (.goto (-42), 3) := by decide +kernel
theorem dX11_goOnOr_45 : decode cX11_goOnOr 45 = .ok (.return_, 1) := by decide +kernel
theorem dX11_condition_0 : decode cX11_condition 0 = .ok (.aload_n 0, 1) := by decide +kernel
theorem dX11_condition_1 : decode cX11_condition 1 = .ok (.invokevirtual 159, 3) := by decide +kernel
theorem dX11_condition_4 : decode cX11_condition 4 = .ok (.aload_n 0, 1) := by decide +kernel
theorem dX11_condition_5 : decode cX11_condition 5 = .ok (.invokevirtual 168, 3) := by decide +kernel
theorem dX11_condition_8 : decode cX11_condition 8 = .ok (.aload_n 0, 1) := by decide +kernel
theorem dX11_condition_9 : decode cX11_condition 9 = .ok (.invokevirtual 171, 3) := by decide +kernel
theorem dX11_condition_12 : decode cX11_condition 12 = .ok (.return_, 1) := by decide +kernel
theorem dX11_clause_0 : decode cX11_clause 0 = .ok (.sipush 140, 3) := by decide +kernel
theorem dX11_clause_3 : decode cX11_clause 3 = .ok (.aload_n 0, 1) := by decide +kernel
theorem dX11_clause_4 : decode cX11_clause 4 = .ok (.getfield 113, 3) := by decide +kernel
theorem dX11_clause_7 : decode cX11_clause 7 = .ok (.imul, 1) := by decide +kernel
theorem dX11_clause_8 : decode cX11_clause 8 = .ok (.aload_n 0, 1) := by decide +kernel
theorem dX11_clause_9 : decode cX11_clause 9 = .ok (.getfield 22, 3) := by decide +kernel
theorem dX11_clause_12 : decode cX11_clause 12 = .ok (.aload_n 0, 1) := by decide +kernel
theorem dX11_clause_13 : decode cX11_clause 13 = .ok (.getfield 113, 3) := by decide +kernel
theorem dX11_clause_16 : decode cX11_clause 16 = .ok (.iaload, 1) := by decide +kernel
theorem dX11_clause_17 : decode cX11_clause 17 = .ok (.iadd, 1) := by decide +kernel
theorem dX11_clause_18 : decode cX11_clause 18 = .ok (.istore_n 1, 1) := by decide +kernel
theorem dX11_clause_19 : decode cX11_clause 19 = .ok (.aload_n 0, 1) := by decide +kernel
theorem dX11_clause_20 : decode cX11_clause 20 = .ok (.getfield 110, 3) := by decide +kernel
theorem dX11_clause_23 : decode cX11_clause 23 = .ok (.iconst (-1), 1) := by decide +kernel
theorem dX11_clause_24 : decode cX11_clause 24 = .ok (.if_icmp .ne 16, 3) := by decide +kernel
theorem dX11_clause_27 : decode cX11_clause 27 = .ok (.aload_n 0, 1) := by decide +kernel
theorem dX11_clause_28 : decode cX11_clause 28 = .ok (.invokevirtual 122, 3) := by decide +kernel
theorem dX11_clause_31 : decode cX11_clause 31 = .ok (.bipush 121, 2) := by decide +kernel
theorem dX11_clause_33 : decode cX11_clause 33 = .ok (.if_icmp .eq 7, 3) := by decide +kernel
theorem dX11_clause_36 : decode cX11_clause 36 = .ok (.aload_n 0, 1) := by decide +kernel
theorem dX11_clause_37 : decode cX11_clause 37 = .ok (.invokevirtual 119, 3) := by decide +kernel
theorem dX11_clause_40 : decode cX11_clause 40 = .ok (.aload_n 0, 1) := by decide +kernel
theorem dX11_clause_41 : decode cX11_clause 41 = .ok (.dup, 1) := by decide +kernel
theorem dX11_clause_42 : decode cX11_clause 42 = .ok (.getfield 103, 3) := by decide +kernel
theorem dX11_clause_45 : decode cX11_clause 45 = .ok (.iconst 1, 1) := by decide +kernel
theorem dX11_clause_46 : decode cX11_clause 46 = .ok (.iadd, 1) := by decide +kernel
theorem dX11_clause_47 : decode cX11_clause 47 = .ok (.putfield 103, 3) := by decide +kernel
theorem dX11_clause_50 : decode cX11_clause 50 = .ok (.aload_n 0, 1) := by decide +kernel
theorem dX11_clause_51 : decode cX11_clause 51 = .ok (.getfield 110, 3) := by decide +kernel
theorem dX11_clause_54 : decode cX11_clause 54 = .ok (.iconst (-1), 1) := by decide +kernel
theorem dX11_clause_55 : decode cX11_clause 55 = .ok (.if_icmp .ne 16, 3) := by decide +kernel
theorem dX11_clause_58 : decode cX11_clause 58 = .ok (.aload_n 0, 1) := by decide +kernel
theorem dX11_clause_59 : decode cX11_clause 59 = .ok (.invokevirtual 122, 3) := by decide +kernel
theorem dX11_clause_62 : decode cX11_clause 62 = .ok (.bipush 58, 2) := by decide +kernel
theorem dX11_clause_64 : decode cX11_clause 64 = .ok (.if_icmp .eq 7, 3) := by decide +kernel
theorem dX11_clause_67 : decode cX11_clause 67 = .ok (.aload_n 0, 1) := by decide +kernel
theorem dX11_clause_68 : decode cX11_clause 68 = .ok (.invokevirtual 119, 3) := by decide +kernel
theorem dX11_clause_71 : decode cX11_clause 71 = .ok (.aload_n 0, 1) := by decide +kernel
theorem dX11_clause_72 : decode cX11_clause 72 = .ok (.dup, 1) := by decide +kernel
theorem dX11_clause_73 : decode cX11_clause 73 = .ok (.getfield 103, 3) := by decide +kernel
theorem dX11_clause_76 : decode cX11_clause 76 = .ok (.iconst 1, 1) := by decide +kernel
theorem dX11_clause_77 : decode cX11_clause 77 = .ok (.iadd, 1) := by decide +kernel
theorem dX11_clause_78 : decode cX11_clause 78 = .ok (.putfield 103, 3) := by decide +kernel
theorem dX11_clause_81 : decode cX11_clause 81 = .ok (.aload_n 0, 1) := by decide +kernel
theorem dX11_clause_82 : decode cX11_clause 82 = .ok (.getfield 110, 3) := by decide +kernel
theorem dX11_clause_85 : decode cX11_clause 85 = .ok (.iconst (-1), 1) := by decide +kernel
theorem dX11_clause_86 : decode cX11_clause 86 = .ok (.if_icmp .eq 4, 3) := by decide +kernel
theorem dX11_clause_89 : decode cX11_clause 89 = .ok (.return_, 1) := by decide +kernel
theorem dX11_clause_90 : decode cX11_clause 90 = .ok (.aload_n 0, 1) := by decide +kernel
theorem dX11_clause_91 : decode cX11_clause 91 = .ok (.getfield 25, 3) := by decide +kernel
theorem dX11_clause_94 : decode cX11_clause 94 = .ok (.iload_n 1, 1) := by decide +kernel
theorem dX11_clause_95 : decode cX11_clause 95 = .ok (.aload_n 0, 1) := by decide +kernel
theorem dX11_clause_96 : decode cX11_clause 96 = .ok (.getfield 19, 3) := by decide +kernel
theorem dX11_clause_99 : decode cX11_clause 99 = .ok (.aload_n 0, 1) := by decide +kernel
theorem dX11_clause_100 : decode cX11_clause 100 = .ok (.getfield 113, 3) := by decide +kernel
theorem dX11_clause_103 : decode cX11_clause 103 = .ok (.iaload, 1) := by decide +kernel
theorem dX11_clause_104 : decode cX11_clause 104 = .ok (.iastore, 1) := by decide +kernel
theorem dX11_clause_105 : decode cX11_clause 105 = .ok (.aload_n 0, 1) := by decide +kernel
theorem dX11_clause_106 : decode cX11_clause 106 = .ok (.invokevirtual 122, 3) := by decide +kernel
theorem dX11_clause_109 : decode cX11_clause 109 = .ok (.bipush 33, 2) := by decide +kernel
theorem dX11_clause_111 : decode cX11_clause 111 = .ok (.if_icmp .eq 12, 3) := by decide +kernel
theorem dX11_clause_114 : decode cX11_clause 114 = .ok (.aload_n 0, 1) := by decide +kernel
theorem dX11_clause_115 : decode cX11_clause 115 = .ok (.invokevirtual 122, 3) := by decide +kernel
theorem dX11_clause_118 : decode cX11_clause 118 = .ok (.bipush 40, 2) := by decide +kernel
theorem dX11_clause_120 : decode cX11_clause 120 = .ok (.if_icmp .ne 7, 3) := by decide +kernel
theorem dX11_clause_123 : decode cX11_clause 123 = .ok (.iconst 1, 1) := by decide +kernel
theorem dX11_clause_124 : decode cX11_clause 124 = .ok (.goto 4, 3) := by decide +kernel
theorem dX11_clause_127 : decode cX11_clause 127 = .ok (.iconst 0, 1) := by decide +kernel
theorem dX11_clause_128 : decode cX11_clause 128 = .ok (.istore_n 2, 1) := by decide +kernel
theorem dX11_clause_129 : decode cX11_clause 129 = .ok (.iload_n 2, 1) := by decide +kernel
theorem dX11_clause_130 : decode cX11_clause 130 = .ok (.ifCond .eq 10, 3) := by decide +kernel
theorem dX11_clause_133 : decode cX11_clause 133 = .ok (.aload_n 0, 1) := by decide +kernel
theorem dX11_clause_134 : decode cX11_clause 134 = .ok (.invokevirtual 162, 3) := by decide +kernel
theorem dX11_clause_137 : decode cX11_clause 137 = .ok (.goto 47, 3) := by decide +kernel
theorem dX11_clause_140 : decode cX11_clause 140 = .ok (.aload_n 0, 1) := by decide +kernel
theorem dX11_clause_141 : decode cX11_clause 141 = .ok (.invokevirtual 143, 3) := by decide +kernel
theorem dX11_clause_144 : decode cX11_clause 144 = .ok (.aload_n 0, 1) := by decide +kernel
theorem dX11_clause_145 : decode cX11_clause 145 = .ok (.getfield 110, 3) := by decide +kernel
theorem dX11_clause_148 : decode cX11_clause 148 = .ok (.iconst (-1), 1) := by decide +kernel
theorem dX11_clause_149 : decode cX11_clause 149 = .ok (.if_icmp .ne 17, 3) := by decide +kernel
theorem dX11_clause_152 : decode cX11_clause 152 = .ok (.aload_n 0, 1) := by decide +kernel
theorem dX11_clause_153 : decode cX11_clause 153 = .ok (.invokevirtual 122, 3) := by decide +kernel
theorem dX11_clause_156 : decode cX11_clause 156 = .ok (.invokestatic 156, 3) := by decide +kernel
theorem dX11_clause_159 : decode cX11_clause 159 = .ok (.ifCond .eq 7, 3) := by decide +kernel
theorem dX11_clause_162 : decode cX11_clause 162 = .ok (.iconst 1, 1) := by decide +kernel
theorem dX11_clause_163 : decode cX11_clause 163 = .ok (.goto 4, 3) := by decide +kernel
theorem dX11_clause_166 : decode cX11_clause 166 = .ok (.iconst 0, 1) := by decide +kernel
theorem dX11_clause_167 : decode cX11_clause 167 = .ok (.istore_n 2, 1) := by decide +kernel
theorem dX11_clause_168 : decode cX11_clause 168 = .ok (.iload_n 2, 1) := by decide +kernel
theorem dX11_clause_169 : decode cX11_clause 169 = .ok (.ifCond .eq 15, 3) := by decide +kernel
theorem dX11_clause_172 : decode cX11_clause 172 = .ok (.aload_n 0, 1) := by decide +kernel
theorem dX11_clause_173 : decode cX11_clause 173 = .ok (.invokevirtual 165, 3) := by decide +kernel
theorem dX11_clause_176 : decode cX11_clause 176 = .ok (.aload_n 0, 1) := by decide +kernel
theorem dX11_clause_177 : decode cX11_clause 177 = .ok (.invokevirtual 168, 3) := by decide +kernel
theorem dX11_clause_180 : decode cX11_clause 180 = .ok (.aload_n 0, 1) := by decide +kernel
theorem dX11_clause_181 : decode cX11_clause 181 = .ok (.invokevirtual 171, 3) := by decide +kernel
theorem dX11_clause_184 : decode cX11_clause 184 = .ok (.aload_n 0, 1) := by decide +kernel
theorem dX11_clause_185 : decode cX11_clause 185 = .ok (.getfield 28, 3) := by decide +kernel
theorem dX11_clause_188 : decode cX11_clause 188 = .ok (.iload_n 1, 1) := by decide +kernel
theorem dX11_clause_189 : decode cX11_clause 189 = .ok (.aload_n 0, 1) := by decide +kernel
theorem dX11_clause_190 : decode cX11_clause 190 = .ok (.getfield 25, 3) := by decide +kernel
theorem dX11_clause_193 : decode cX11_clause 193 = .ok (.iload_n 1, 1) := by decide +kernel
theorem dX11_clause_194 : decode cX11_clause 194 = .ok (.iaload, 1) := by decide +kernel
theorem dX11_clause_195 : decode cX11_clause 195 = .ok (.iastore, 1) := by decide +kernel
theorem dX11_clause_196 : decode cX11_clause 196 = .ok (.iload_n 2, 1) := by decide +kernel
theorem dX11_clause_197 : decode cX11_clause 197 = .ok (.ifCond .eq 54, 3) := by decide +kernel
theorem dX11_clause_200 : decode cX11_clause 200 = .ok (.aload_n 0, 1) := by decide +kernel
theorem dX11_clause_201 : decode cX11_clause 201 = .ok (.getfield 110, 3) := by decide +kernel
theorem dX11_clause_204 : decode cX11_clause 204 = .ok (.iconst (-1), 1) := by decide +kernel
theorem dX11_clause_205 : decode cX11_clause 205 = .ok (.if_icmp .ne 46, 3) := by decide +kernel
theorem dX11_clause_208 : decode cX11_clause 208 = .ok (.aload_n 0, 1) := by decide +kernel
theorem dX11_clause_209 : decode cX11_clause 209 = .ok (.invokevirtual 122, 3) := by decide +kernel
theorem dX11_clause_212 : decode cX11_clause 212 = .ok (.bipush 63, 2) := by decide +kernel
theorem dX11_clause_214 : decode cX11_clause 214 = .ok (.if_icmp .eq 8, 3) := by decide +kernel
theorem dX11_clause_217 : decode cX11_clause 217 = .ok (.aload_n 0, 1) := by decide +kernel
theorem dX11_clause_218 : decode cX11_clause 218 = .ok (.invokevirtual 119, 3) := by decide +kernel
theorem dX11_clause_221 : decode cX11_clause 221 = .ok (.return_, 1) := by decide +kernel
theorem dX11_clause_222 : decode cX11_clause 222 = .ok (.aload_n 0, 1) := by decide +kernel
theorem dX11_clause_223 : decode cX11_clause 223 = .ok (.dup, 1) := by decide +kernel
theorem dX11_clause_224 : decode cX11_clause 224 = .ok (.getfield 103, 3) := by decide +kernel
theorem dX11_clause_227 : decode cX11_clause 227 = .ok (.iconst 1, 1) := by decide +kernel
theorem dX11_clause_228 : decode cX11_clause 228 = .ok (.iadd, 1) := by decide +kernel
theorem dX11_clause_229 : decode cX11_clause 229 = .ok (.putfield 103, 3) := by decide +kernel
theorem dX11_clause_232 : decode cX11_clause 232 = .ok (.aload_n 0, 1) := by decide +kernel
theorem dX11_clause_233 : decode cX11_clause 233 = .ok (.getfield 28, 3) := by decide +kernel
theorem dX11_clause_236 : decode cX11_clause 236 = .ok (.iload_n 1, 1) := by decide +kernel
theorem dX11_clause_237 : decode cX11_clause 237 = .ok (.aload_n 0, 1) := by decide +kernel
theorem dX11_clause_238 : decode cX11_clause 238 = .ok (.getfield 19, 3) := by decide +kernel
theorem dX11_clause_241 : decode cX11_clause 241 = .ok (.aload_n 0, 1) := by decide +kernel
theorem dX11_clause_242 : decode cX11_clause 242 = .ok (.getfield 113, 3) := by decide +kernel
theorem dX11_clause_245 : decode cX11_clause 245 = .ok (.iaload, 1) := by decide +kernel
theorem dX11_clause_246 : decode cX11_clause 246 = .ok (.iastore, 1) := by decide +kernel
theorem dX11_clause_247 : decode cX11_clause 247 = .ok (.aload_n 0, 1) := by decide +kernel
theorem dX11_clause_248 : decode cX11_clause 248 = .ok (.invokevirtual 143, 3) := by decide +kernel
theorem dX11_clause_251 : decode cX11_clause 251 = .ok (.aload_n 0, 1) := by decide +kernel
theorem dX11_clause_252 : decode cX11_clause 252 = .ok (.getfield 31, 3) := by decide +kernel
theorem dX11_clause_255 : decode cX11_clause 255 = .ok (.iload_n 1, 1) := by decide +kernel
theorem dX11_clause_256 : decode cX11_clause 256 = .ok (.aload_n 0, 1) := by decide +kernel
theorem dX11_clause_257 : decode cX11_clause 257 = .ok (.getfield 19, 3) := by decide +kernel
theorem dX11_clause_260 : decode cX11_clause 260 = .ok (.aload_n 0, 1) := by decide +kernel
theorem dX11_clause_261 : decode cX11_clause 261 = .ok (.getfield 113, 3) := by decide +kernel
theorem dX11_clause_264 : decode cX11_clause 264 = .ok (.iaload, 1) := by decide +kernel
theorem dX11_clause_265 : decode cX11_clause 265 = .ok (.iastore, 1) := by decide +kernel
theorem dX11_clause_266 : decode cX11_clause 266 = .ok (.aload_n 0, 1) := by decide +kernel
theorem dX11_clause_267 : decode cX11_clause 267 = .ok (.getfield 22, 3) := by decide +kernel
theorem dX11_clause_270 : decode cX11_clause 270 = .ok (.aload_n 0, 1) := by decide +kernel
theorem dX11_clause_271 : decode cX11_clause 271 = .ok (.getfield 113, 3) := by decide +kernel
theorem dX11_clause_274 : decode cX11_clause 274 = .ok (.dup2, 1) := by decide +kernel
theorem dX11_clause_275 : decode cX11_clause 275 = .ok (.iaload, 1) := by decide +kernel
theorem dX11_clause_276 : decode cX11_clause 276 = .ok (.iconst 1, 1) := by decide +kernel
theorem dX11_clause_277 : decode cX11_clause 277 = .ok (.iadd, 1) := by decide +kernel
theorem dX11_clause_278 : decode cX11_clause 278 = .ok (.iastore, 1) := by decide +kernel
theorem dX11_clause_279 : decode cX11_clause 279 = .ok (.return_, 1) := by decide +kernel
theorem dX11_open_0 : decode cX11_open 0 = .ok (.aload_n 0, 1) := by decide +kernel
theorem dX11_open_1 : decode cX11_open 1 = .ok (.iload_n 1, 1) := by decide +kernel
theorem dX11_open_2 : decode cX11_open 2 = .ok (.putfield 113, 3) := by decide +kernel
theorem dX11_open_5 : decode cX11_open 5 = .ok (.aload_n 0, 1) := by decide +kernel
theorem dX11_open_6 : decode cX11_open 6 = .ok (.iconst 0, 1) := by decide +kernel
theorem dX11_open_7 : decode cX11_open 7 = .ok (.putfield 103, 3) := by decide +kernel
theorem dX11_open_10 : decode cX11_open 10 = .ok (.aload_n 0, 1) := by decide +kernel
theorem dX11_open_11 : decode cX11_open 11 = .ok (.iconst (-1), 1) := by decide +kernel
theorem dX11_open_12 : decode cX11_open 12 = .ok (.putfield 110, 3) := by decide +kernel
theorem dX11_open_15 : decode cX11_open 15 = .ok (.aload_n 0, 1) := by decide +kernel
theorem dX11_open_16 : decode cX11_open 16 = .ok (.iconst 0, 1) := by decide +kernel
theorem dX11_open_17 : decode cX11_open 17 = .ok (.putfield 116, 3) := by decide +kernel
theorem dX11_open_20 : decode cX11_open 20 = .ok (.aload_n 0, 1) := by decide +kernel
theorem dX11_open_21 : decode cX11_open 21 = .ok (.getfield 19, 3) := by decide +kernel
theorem dX11_open_24 : decode cX11_open 24 = .ok (.iload_n 1, 1) := by decide +kernel
theorem dX11_open_25 : decode cX11_open 25 = .ok (.iconst 0, 1) := by decide +kernel
theorem dX11_open_26 : decode cX11_open 26 = .ok (.iastore, 1) := by decide +kernel
theorem dX11_open_27 : decode cX11_open 27 = .ok (.aload_n 0, 1) := by decide +kernel
theorem dX11_open_28 : decode cX11_open 28 = .ok (.getfield 22, 3) := by decide +kernel
theorem dX11_open_31 : decode cX11_open 31 = .ok (.iload_n 1, 1) := by decide +kernel
theorem dX11_open_32 : decode cX11_open 32 = .ok (.iconst 0, 1) := by decide +kernel
theorem dX11_open_33 : decode cX11_open 33 = .ok (.iastore, 1) := by decide +kernel
theorem dX11_open_34 : decode cX11_open 34 = .ok (.return_, 1) := by decide +kernel
theorem dX11_atEnd_0 : decode cX11_atEnd 0 = .ok (.aload_n 0, 1) := by decide +kernel
theorem dX11_atEnd_1 : decode cX11_atEnd 1 = .ok (.getfield 110, 3) := by decide +kernel
theorem dX11_atEnd_4 : decode cX11_atEnd 4 = .ok (.iconst (-1), 1) := by decide +kernel
theorem dX11_atEnd_5 : decode cX11_atEnd 5 = .ok (.if_icmp .ne 15, 3) := by decide +kernel
theorem dX11_atEnd_8 : decode cX11_atEnd 8 = .ok (.aload_n 0, 1) := by decide +kernel
theorem dX11_atEnd_9 : decode cX11_atEnd 9 = .ok (.invokevirtual 122, 3) := by decide +kernel
theorem dX11_atEnd_12 : decode cX11_atEnd 12 = .ok (.iconst (-1), 1) := by decide +kernel
theorem dX11_atEnd_13 : decode cX11_atEnd 13 = .ok (.if_icmp .eq 7, 3) := by decide +kernel
theorem dX11_atEnd_16 : decode cX11_atEnd 16 = .ok (.aload_n 0, 1) := by decide +kernel
theorem dX11_atEnd_17 : decode cX11_atEnd 17 = .ok (.invokevirtual 119, 3) := by decide +kernel
theorem dX11_atEnd_20 : decode cX11_atEnd 20 = .ok (.aload_n 0, 1) := by decide +kernel
theorem dX11_atEnd_21 : decode cX11_atEnd 21 = .ok (.getfield 110, 3) := by decide +kernel
theorem dX11_atEnd_24 : decode cX11_atEnd 24 = .ok (.ireturn, 1) := by decide +kernel
theorem dX11_readLaw_0 : decode cX11_readLaw 0 = .ok (.aload_n 0, 1) := by decide +kernel
theorem dX11_readLaw_1 : decode cX11_readLaw 1 = .ok (.iload_n 1, 1) := by decide +kernel
theorem dX11_readLaw_2 : decode cX11_readLaw 2 = .ok (.invokevirtual 174, 3) := by decide +kernel
theorem dX11_readLaw_5 : decode cX11_readLaw 5 = .ok (.aload_n 0, 1) := by decide +kernel
theorem dX11_readLaw_6 : decode cX11_readLaw 6 = .ok (.invokevirtual 177, 3) := by decide +kernel
theorem dX11_readLaw_9 : decode cX11_readLaw 9 = .ok (.aload_n 0, 1) := by decide +kernel
theorem dX11_readLaw_10 : decode cX11_readLaw 10 = .ok (.getfield 110, 3) := by decide +kernel
theorem dX11_readLaw_13 : decode cX11_readLaw 13 = .ok (.iconst (-1), 1) := by decide +kernel
theorem dX11_readLaw_14 : decode cX11_readLaw 14 = .ok (.if_icmp .ne 29, 3) := by decide +kernel
theorem dX11_readLaw_17 : decode cX11_readLaw 17 = .ok (.aload_n 0, 1) := by decide +kernel
theorem dX11_readLaw_18 : decode cX11_readLaw 18 = .ok (.invokevirtual 122, 3) := by decide +kernel
theorem dX11_readLaw_21 : decode cX11_readLaw 21 = .ok (.bipush 59, 2) := by decide +kernel
theorem dX11_readLaw_23 : decode cX11_readLaw 23 = .ok (.if_icmp .ne 20, 3) := by decide +kernel
theorem dX11_readLaw_26 : decode cX11_readLaw 26 = .ok (.aload_n 0, 1) := by decide +kernel
theorem dX11_readLaw_27 : decode cX11_readLaw 27 = .ok (.dup, 1) := by decide +kernel
theorem dX11_readLaw_28 : decode cX11_readLaw 28 = .ok (.getfield 103, 3) := by decide +kernel
theorem dX11_readLaw_31 : decode cX11_readLaw 31 = .ok (.iconst 1, 1) := by decide +kernel
theorem dX11_readLaw_32 : decode cX11_readLaw 32 = .ok (.iadd, 1) := by decide +kernel
theorem dX11_readLaw_33 : decode cX11_readLaw 33 = .ok (.putfield 103, 3) := by decide +kernel
theorem dX11_readLaw_36 : decode cX11_readLaw 36 = .ok (.aload_n 0, 1) := by decide +kernel
theorem dX11_readLaw_37 : decode cX11_readLaw 37 = .ok (.invokevirtual 177, 3) := by decide +kernel
theorem dX11_readLaw_40 : decode cX11_readLaw 40 = .ok (.goto (-31), 3) := by decide +kernel
theorem dX11_readLaw_43 : decode cX11_readLaw 43 = .ok (.aload_n 0, 1) := by decide +kernel
theorem dX11_readLaw_44 : decode cX11_readLaw 44 = .ok (.invokevirtual 180, 3) := by decide +kernel
theorem dX11_readLaw_47 : decode cX11_readLaw 47 = .ok (.ireturn, 1) := by decide +kernel
theorem dX11_bounded_0 : decode cX11_bounded 0 = .ok (.ldc2_w 183, 3) := by decide +kernel
theorem dX11_bounded_3 : decode cX11_bounded 3 = .ok (.ldc2_w 185, 3) := by decide +kernel
theorem dX11_bounded_6 : decode cX11_bounded 6 = .ok (.lload_n 0, 1) := by decide +kernel
theorem dX11_bounded_7 : decode cX11_bounded 7 = .ok (.invokestatic 187, 3) := by decide +kernel
theorem dX11_bounded_10 : decode cX11_bounded 10 = .ok (.invokestatic 193, 3) := by decide +kernel
theorem dX11_bounded_13 : decode cX11_bounded 13 = .ok (.l2i, 1) := by decide +kernel
theorem dX11_bounded_14 : decode cX11_bounded 14 = .ok (.ireturn, 1) := by decide +kernel
theorem dX11_worked_0 : decode cX11_worked 0 = .ok (.iload_n 0, 1) := by decide +kernel
theorem dX11_worked_1 : decode cX11_worked 1 = .ok (.tableswitch 143 2 10 #[51, 58, 65, 72, 89, 101, 113, 143, 125], 51) := by decide +kernel
theorem dX11_worked_52 : decode cX11_worked 52 = .ok (.lload_n 1, 1) := by decide +kernel
theorem dX11_worked_53 : decode cX11_worked 53 = .ok (.lload_n 3, 1) := by decide +kernel
theorem dX11_worked_54 : decode cX11_worked 54 = .ok (.ladd, 1) := by decide +kernel
theorem dX11_worked_55 : decode cX11_worked 55 = .ok (.invokestatic 196, 3) := by decide +kernel
theorem dX11_worked_58 : decode cX11_worked 58 = .ok (.ireturn, 1) := by decide +kernel
theorem dX11_worked_59 : decode cX11_worked 59 = .ok (.lload_n 1, 1) := by decide +kernel
theorem dX11_worked_60 : decode cX11_worked 60 = .ok (.lload_n 3, 1) := by decide +kernel
theorem dX11_worked_61 : decode cX11_worked 61 = .ok (.lsub, 1) := by decide +kernel
theorem dX11_worked_62 : decode cX11_worked 62 = .ok (.invokestatic 196, 3) := by decide +kernel
theorem dX11_worked_65 : decode cX11_worked 65 = .ok (.ireturn, 1) := by decide +kernel
theorem dX11_worked_66 : decode cX11_worked 66 = .ok (.lload_n 1, 1) := by decide +kernel
theorem dX11_worked_67 : decode cX11_worked 67 = .ok (.lload_n 3, 1) := by decide +kernel
theorem dX11_worked_68 : decode cX11_worked 68 = .ok (.lmul, 1) := by decide +kernel
theorem dX11_worked_69 : decode cX11_worked 69 = .ok (.invokestatic 196, 3) := by decide +kernel
theorem dX11_worked_72 : decode cX11_worked 72 = .ok (.ireturn, 1) := by decide +kernel
theorem dX11_worked_73 : decode cX11_worked 73 = .ok (.lload_n 3, 1) := by decide +kernel
theorem dX11_worked_74 : decode cX11_worked 74 = .ok (.lconst 0, 1) := by decide +kernel
theorem dX11_worked_75 : decode cX11_worked 75 = .ok (.lcmp, 1) := by decide +kernel
theorem dX11_worked_76 : decode cX11_worked 76 = .ok (.ifCond .ne 7, 3) := by decide +kernel
theorem dX11_worked_79 : decode cX11_worked 79 = .ok (.iconst 0, 1) := by decide +kernel
theorem dX11_worked_80 : decode cX11_worked 80 = .ok (.goto 9, 3) := by decide +kernel
theorem dX11_worked_83 : decode cX11_worked 83 = .ok (.lload_n 1, 1) := by decide +kernel
theorem dX11_worked_84 : decode cX11_worked 84 = .ok (.lload_n 3, 1) := by decide +kernel
theorem dX11_worked_85 : decode cX11_worked 85 = .ok (.ldiv, 1) := by decide +kernel
theorem dX11_worked_86 : decode cX11_worked 86 = .ok (.invokestatic 196, 3) := by decide +kernel
theorem dX11_worked_89 : decode cX11_worked 89 = .ok (.ireturn, 1) := by decide +kernel
theorem dX11_worked_90 : decode cX11_worked 90 = .ok (.lload_n 1, 1) := by decide +kernel
theorem dX11_worked_91 : decode cX11_worked 91 = .ok (.lload_n 3, 1) := by decide +kernel
theorem dX11_worked_92 : decode cX11_worked 92 = .ok (.lcmp, 1) := by decide +kernel
theorem dX11_worked_93 : decode cX11_worked 93 = .ok (.ifCond .ne 7, 3) := by decide +kernel
theorem dX11_worked_96 : decode cX11_worked 96 = .ok (.iconst 1, 1) := by decide +kernel
theorem dX11_worked_97 : decode cX11_worked 97 = .ok (.goto 4, 3) := by decide +kernel
theorem dX11_worked_100 : decode cX11_worked 100 = .ok (.iconst 0, 1) := by decide +kernel
theorem dX11_worked_101 : decode cX11_worked 101 = .ok (.ireturn, 1) := by decide +kernel
theorem dX11_worked_102 : decode cX11_worked 102 = .ok (.lload_n 1, 1) := by decide +kernel
theorem dX11_worked_103 : decode cX11_worked 103 = .ok (.lload_n 3, 1) := by decide +kernel
theorem dX11_worked_104 : decode cX11_worked 104 = .ok (.lcmp, 1) := by decide +kernel
theorem dX11_worked_105 : decode cX11_worked 105 = .ok (.ifCond .ge 7, 3) := by decide +kernel
theorem dX11_worked_108 : decode cX11_worked 108 = .ok (.iconst 1, 1) := by decide +kernel
theorem dX11_worked_109 : decode cX11_worked 109 = .ok (.goto 4, 3) := by decide +kernel
theorem dX11_worked_112 : decode cX11_worked 112 = .ok (.iconst 0, 1) := by decide +kernel
theorem dX11_worked_113 : decode cX11_worked 113 = .ok (.ireturn, 1) := by decide +kernel
theorem dX11_worked_114 : decode cX11_worked 114 = .ok (.lload_n 1, 1) := by decide +kernel
theorem dX11_worked_115 : decode cX11_worked 115 = .ok (.lload_n 3, 1) := by decide +kernel
theorem dX11_worked_116 : decode cX11_worked 116 = .ok (.lcmp, 1) := by decide +kernel
theorem dX11_worked_117 : decode cX11_worked 117 = .ok (.ifCond .le 7, 3) := by decide +kernel
theorem dX11_worked_120 : decode cX11_worked 120 = .ok (.iconst 1, 1) := by decide +kernel
theorem dX11_worked_121 : decode cX11_worked 121 = .ok (.goto 4, 3) := by decide +kernel
theorem dX11_worked_124 : decode cX11_worked 124 = .ok (.iconst 0, 1) := by decide +kernel
theorem dX11_worked_125 : decode cX11_worked 125 = .ok (.ireturn, 1) := by decide +kernel
theorem dX11_worked_126 : decode cX11_worked 126 = .ok (.lload_n 1, 1) := by decide +kernel
theorem dX11_worked_127 : decode cX11_worked 127 = .ok (.lconst 0, 1) := by decide +kernel
theorem dX11_worked_128 : decode cX11_worked 128 = .ok (.lcmp, 1) := by decide +kernel
theorem dX11_worked_129 : decode cX11_worked 129 = .ok (.ifCond .eq 13, 3) := by decide +kernel
theorem dX11_worked_132 : decode cX11_worked 132 = .ok (.lload_n 3, 1) := by decide +kernel
theorem dX11_worked_133 : decode cX11_worked 133 = .ok (.lconst 0, 1) := by decide +kernel
theorem dX11_worked_134 : decode cX11_worked 134 = .ok (.lcmp, 1) := by decide +kernel
theorem dX11_worked_135 : decode cX11_worked 135 = .ok (.ifCond .eq 7, 3) := by decide +kernel
theorem dX11_worked_138 : decode cX11_worked 138 = .ok (.iconst 1, 1) := by decide +kernel
theorem dX11_worked_139 : decode cX11_worked 139 = .ok (.goto 4, 3) := by decide +kernel
theorem dX11_worked_142 : decode cX11_worked 142 = .ok (.iconst 0, 1) := by decide +kernel
theorem dX11_worked_143 : decode cX11_worked 143 = .ok (.ireturn, 1) := by decide +kernel
theorem dX11_worked_144 : decode cX11_worked 144 = .ok (.lload_n 1, 1) := by decide +kernel
theorem dX11_worked_145 : decode cX11_worked 145 = .ok (.lconst 0, 1) := by decide +kernel
theorem dX11_worked_146 : decode cX11_worked 146 = .ok (.lcmp, 1) := by decide +kernel
theorem dX11_worked_147 : decode cX11_worked 147 = .ok (.ifCond .ne 9, 3) := by decide +kernel
theorem dX11_worked_150 : decode cX11_worked 150 = .ok (.lload_n 3, 1) := by decide +kernel
theorem dX11_worked_151 : decode cX11_worked 151 = .ok (.lconst 0, 1) := by decide +kernel
theorem dX11_worked_152 : decode cX11_worked 152 = .ok (.lcmp, 1) := by decide +kernel
theorem dX11_worked_153 : decode cX11_worked 153 = .ok (.ifCond .eq 7, 3) := by decide +kernel
theorem dX11_worked_156 : decode cX11_worked 156 = .ok (.iconst 1, 1) := by decide +kernel
theorem dX11_worked_157 : decode cX11_worked 157 = .ok (.goto 4, 3) := by decide +kernel
theorem dX11_worked_160 : decode cX11_worked 160 = .ok (.iconst 0, 1) := by decide +kernel
theorem dX11_worked_161 : decode cX11_worked 161 = .ok (.ireturn, 1) := by decide +kernel
theorem dX11_workOut_0 : decode cX11_workOut 0 = .ok (.iconst 0, 1) := by decide +kernel
theorem dX11_workOut_1 : decode cX11_workOut 1 = .ok (.istore 4, 2) := by decide +kernel
theorem dX11_workOut_3 : decode cX11_workOut 3 = .ok (.sipush 520, 3) := by decide +kernel
theorem dX11_workOut_6 : decode cX11_workOut 6 = .ok (.iload_n 1, 1) := by decide +kernel
theorem dX11_workOut_7 : decode cX11_workOut 7 = .ok (.imul, 1) := by decide +kernel
theorem dX11_workOut_8 : decode cX11_workOut 8 = .ok (.iload_n 2, 1) := by decide +kernel
theorem dX11_workOut_9 : decode cX11_workOut 9 = .ok (.iadd, 1) := by decide +kernel
theorem dX11_workOut_10 : decode cX11_workOut 10 = .ok (.istore 5, 2) := by decide +kernel
theorem dX11_workOut_12 : decode cX11_workOut 12 = .ok (.iload 5, 2) := by decide +kernel
theorem dX11_workOut_14 : decode cX11_workOut 14 = .ok (.sipush 520, 3) := by decide +kernel
theorem dX11_workOut_17 : decode cX11_workOut 17 = .ok (.iload_n 1, 1) := by decide +kernel
theorem dX11_workOut_18 : decode cX11_workOut 18 = .ok (.imul, 1) := by decide +kernel
theorem dX11_workOut_19 : decode cX11_workOut 19 = .ok (.iload_n 3, 1) := by decide +kernel
theorem dX11_workOut_20 : decode cX11_workOut 20 = .ok (.iadd, 1) := by decide +kernel
theorem dX11_workOut_21 : decode cX11_workOut 21 = .ok (.if_icmp .ge 150, 3) := by decide +kernel
theorem dX11_workOut_24 : decode cX11_workOut 24 = .ok (.aload_n 0, 1) := by decide +kernel
theorem dX11_workOut_25 : decode cX11_workOut 25 = .ok (.getfield 13, 3) := by decide +kernel
theorem dX11_workOut_28 : decode cX11_workOut 28 = .ok (.iload 5, 2) := by decide +kernel
theorem dX11_workOut_30 : decode cX11_workOut 30 = .ok (.iaload, 1) := by decide +kernel
theorem dX11_workOut_31 : decode cX11_workOut 31 = .ok (.ifCond .eq 14, 3) := by decide +kernel
theorem dX11_workOut_34 : decode cX11_workOut 34 = .ok (.aload_n 0, 1) := by decide +kernel
theorem dX11_workOut_35 : decode cX11_workOut 35 = .ok (.getfield 13, 3) := by decide +kernel
theorem dX11_workOut_38 : decode cX11_workOut 38 = .ok (.iload 5, 2) := by decide +kernel
theorem dX11_workOut_40 : decode cX11_workOut 40 = .ok (.iaload, 1) := by decide +kernel
theorem dX11_workOut_41 : decode cX11_workOut 41 = .ok (.iconst 1, 1) := by decide +kernel
theorem dX11_workOut_42 : decode cX11_workOut 42 = .ok (.if_icmp .ne 48, 3) := by decide +kernel
theorem dX11_workOut_45 : decode cX11_workOut 45 = .ok (.aload_n 0, 1) := by decide +kernel
theorem dX11_workOut_46 : decode cX11_workOut 46 = .ok (.getfield 37, 3) := by decide +kernel
theorem dX11_workOut_49 : decode cX11_workOut 49 = .ok (.iload 4, 2) := by decide +kernel
theorem dX11_workOut_51 : decode cX11_workOut 51 = .ok (.aload_n 0, 1) := by decide +kernel
theorem dX11_workOut_52 : decode cX11_workOut 52 = .ok (.getfield 13, 3) := by decide +kernel
theorem dX11_workOut_55 : decode cX11_workOut 55 = .ok (.iload 5, 2) := by decide +kernel
theorem dX11_workOut_57 : decode cX11_workOut 57 = .ok (.iaload, 1) := by decide +kernel
theorem dX11_workOut_58 : decode cX11_workOut 58 = .ok (.ifCond .ne 13, 3) := by decide +kernel
theorem dX11_workOut_61 : decode cX11_workOut 61 = .ok (.aload_n 0, 1) := by decide +kernel
theorem dX11_workOut_62 : decode cX11_workOut 62 = .ok (.getfield 16, 3) := by decide +kernel
theorem dX11_workOut_65 : decode cX11_workOut 65 = .ok (.iload 5, 2) := by decide +kernel
theorem dX11_workOut_67 : decode cX11_workOut 67 = .ok (.iaload, 1) := by decide +kernel
theorem dX11_workOut_68 : decode cX11_workOut 68 = .ok (.goto 15, 3) := by decide +kernel
theorem dX11_workOut_71 : decode cX11_workOut 71 = .ok (.aload_n 0, 1) := by decide +kernel
theorem dX11_workOut_72 : decode cX11_workOut 72 = .ok (.getfield 34, 3) := by decide +kernel
theorem dX11_workOut_75 : decode cX11_workOut 75 = .ok (.aload_n 0, 1) := by decide +kernel
theorem dX11_workOut_76 : decode cX11_workOut 76 = .ok (.getfield 16, 3) := by decide +kernel
theorem dX11_workOut_79 : decode cX11_workOut 79 = .ok (.iload 5, 2) := by decide +kernel
theorem dX11_workOut_81 : decode cX11_workOut 81 = .ok (.iaload, 1) := by decide +kernel
theorem dX11_workOut_82 : decode cX11_workOut 82 = .ok (.iaload, 1) := by decide +kernel
theorem dX11_workOut_83 : decode cX11_workOut 83 = .ok (.iastore, 1) := by decide +kernel
theorem dX11_workOut_84 : decode cX11_workOut 84 = .ok (.iinc 4 1, 3) := by decide +kernel
theorem dX11_workOut_87 : decode cX11_workOut 87 = .ok (.goto 78, 3) := by decide +kernel
theorem dX11_workOut_90 : decode cX11_workOut 90 = .ok (.aload_n 0, 1) := by decide +kernel
theorem dX11_workOut_91 : decode cX11_workOut 91 = .ok (.getfield 13, 3) := by decide +kernel
theorem dX11_workOut_94 : decode cX11_workOut 94 = .ok (.iload 5, 2) := by decide +kernel
theorem dX11_workOut_96 : decode cX11_workOut 96 = .ok (.iaload, 1) := by decide +kernel
theorem dX11_workOut_97 : decode cX11_workOut 97 = .ok (.bipush 9, 2) := by decide +kernel
theorem dX11_workOut_99 : decode cX11_workOut 99 = .ok (.if_icmp .ne 26, 3) := by decide +kernel
theorem dX11_workOut_102 : decode cX11_workOut 102 = .ok (.aload_n 0, 1) := by decide +kernel
theorem dX11_workOut_103 : decode cX11_workOut 103 = .ok (.getfield 37, 3) := by decide +kernel
theorem dX11_workOut_106 : decode cX11_workOut 106 = .ok (.iload 4, 2) := by decide +kernel
theorem dX11_workOut_108 : decode cX11_workOut 108 = .ok (.iconst 1, 1) := by decide +kernel
theorem dX11_workOut_109 : decode cX11_workOut 109 = .ok (.isub, 1) := by decide +kernel
theorem dX11_workOut_110 : decode cX11_workOut 110 = .ok (.iconst 1, 1) := by decide +kernel
theorem dX11_workOut_111 : decode cX11_workOut 111 = .ok (.aload_n 0, 1) := by decide +kernel
theorem dX11_workOut_112 : decode cX11_workOut 112 = .ok (.getfield 37, 3) := by decide +kernel
theorem dX11_workOut_115 : decode cX11_workOut 115 = .ok (.iload 4, 2) := by decide +kernel
theorem dX11_workOut_117 : decode cX11_workOut 117 = .ok (.iconst 1, 1) := by decide +kernel
theorem dX11_workOut_118 : decode cX11_workOut 118 = .ok (.isub, 1) := by decide +kernel
theorem dX11_workOut_119 : decode cX11_workOut 119 = .ok (.iaload, 1) := by decide +kernel
theorem dX11_workOut_120 : decode cX11_workOut 120 = .ok (.isub, 1) := by decide +kernel
theorem dX11_workOut_121 : decode cX11_workOut 121 = .ok (.iastore, 1) := by decide +kernel
theorem dX11_workOut_122 : decode cX11_workOut 122 = .ok (.goto 43, 3) := by decide +kernel
theorem dX11_workOut_125 : decode cX11_workOut 125 = .ok (.iinc 4 (-1), 3) := by decide +kernel
theorem dX11_workOut_128 : decode cX11_workOut 128 = .ok (.aload_n 0, 1) := by decide +kernel
theorem dX11_workOut_129 : decode cX11_workOut 129 = .ok (.getfield 37, 3) := by decide +kernel
theorem dX11_workOut_132 : decode cX11_workOut 132 = .ok (.iload 4, 2) := by decide +kernel
theorem dX11_workOut_134 : decode cX11_workOut 134 = .ok (.iconst 1, 1) := by decide +kernel
theorem dX11_workOut_135 : decode cX11_workOut 135 = .ok (.isub, 1) := by decide +kernel
theorem dX11_workOut_136 : decode cX11_workOut 136 = .ok (.aload_n 0, 1) := by decide +kernel
theorem dX11_workOut_137 : decode cX11_workOut 137 = .ok (.getfield 13, 3) := by decide +kernel
theorem dX11_workOut_140 : decode cX11_workOut 140 = .ok (.iload 5, 2) := by decide +kernel
theorem dX11_workOut_142 : decode cX11_workOut 142 = .ok (.iaload, 1) := by decide +kernel
theorem dX11_workOut_143 : decode cX11_workOut 143 = .ok (.aload_n 0, 1) := by decide +kernel
theorem dX11_workOut_144 : decode cX11_workOut 144 = .ok (.getfield 37, 3) := by decide +kernel
theorem dX11_workOut_147 : decode cX11_workOut 147 = .ok (.iload 4, 2) := by decide +kernel
theorem dX11_workOut_149 : decode cX11_workOut 149 = .ok (.iconst 1, 1) := by decide +kernel
theorem dX11_workOut_150 : decode cX11_workOut 150 = .ok (.isub, 1) := by decide +kernel
theorem dX11_workOut_151 : decode cX11_workOut 151 = .ok (.iaload, 1) := by decide +kernel
theorem dX11_workOut_152 : decode cX11_workOut 152 = .ok (.i2l, 1) := by decide +kernel
theorem dX11_workOut_153 : decode cX11_workOut 153 = .ok (.aload_n 0, 1) := by decide +kernel
theorem dX11_workOut_154 : decode cX11_workOut 154 = .ok (.getfield 37, 3) := by decide +kernel
theorem dX11_workOut_157 : decode cX11_workOut 157 = .ok (.iload 4, 2) := by decide +kernel
theorem dX11_workOut_159 : decode cX11_workOut 159 = .ok (.iaload, 1) := by decide +kernel
theorem dX11_workOut_160 : decode cX11_workOut 160 = .ok (.i2l, 1) := by decide +kernel
theorem dX11_workOut_161 : decode cX11_workOut 161 = .ok (.invokestatic 200, 3) := by decide +kernel
theorem dX11_workOut_164 : decode cX11_workOut 164 = .ok (.iastore, 1) := by decide +kernel
theorem dX11_workOut_165 : decode cX11_workOut 165 = .ok (.iinc 5 1, 3) := by decide +kernel
theorem dX11_workOut_168 : decode cX11_workOut 168 = .ok (.goto (-156), 3) := by decide +kernel
theorem dX11_workOut_171 : decode cX11_workOut 171 = .ok (.aload_n 0, 1) := by decide +kernel
theorem dX11_workOut_172 : decode cX11_workOut 172 = .ok (.getfield 37, 3) := by decide +kernel
theorem dX11_workOut_175 : decode cX11_workOut 175 = .ok (.iconst 0, 1) := by decide +kernel
theorem dX11_workOut_176 : decode cX11_workOut 176 = .ok (.iaload, 1) := by decide +kernel
theorem dX11_workOut_177 : decode cX11_workOut 177 = .ok (.ireturn, 1) := by decide +kernel
theorem dX11_worthOf_0 : decode cX11_worthOf 0 = .ok (.sipush 140, 3) := by decide +kernel
theorem dX11_worthOf_3 : decode cX11_worthOf 3 = .ok (.iload_n 1, 1) := by decide +kernel
theorem dX11_worthOf_4 : decode cX11_worthOf 4 = .ok (.imul, 1) := by decide +kernel
theorem dX11_worthOf_5 : decode cX11_worthOf 5 = .ok (.istore_n 2, 1) := by decide +kernel
theorem dX11_worthOf_6 : decode cX11_worthOf 6 = .ok (.iload_n 2, 1) := by decide +kernel
theorem dX11_worthOf_7 : decode cX11_worthOf 7 = .ok (.sipush 140, 3) := by decide +kernel
theorem dX11_worthOf_10 : decode cX11_worthOf 10 = .ok (.iload_n 1, 1) := by decide +kernel
theorem dX11_worthOf_11 : decode cX11_worthOf 11 = .ok (.imul, 1) := by decide +kernel
theorem dX11_worthOf_12 : decode cX11_worthOf 12 = .ok (.aload_n 0, 1) := by decide +kernel
theorem dX11_worthOf_13 : decode cX11_worthOf 13 = .ok (.getfield 22, 3) := by decide +kernel
theorem dX11_worthOf_16 : decode cX11_worthOf 16 = .ok (.iload_n 1, 1) := by decide +kernel
theorem dX11_worthOf_17 : decode cX11_worthOf 17 = .ok (.iaload, 1) := by decide +kernel
theorem dX11_worthOf_18 : decode cX11_worthOf 18 = .ok (.iadd, 1) := by decide +kernel
theorem dX11_worthOf_19 : decode cX11_worthOf 19 = .ok (.if_icmp .ge 62, 3) := by decide +kernel
theorem dX11_worthOf_22 : decode cX11_worthOf 22 = .ok (.aload_n 0, 1) := by decide +kernel
theorem dX11_worthOf_23 : decode cX11_worthOf 23 = .ok (.getfield 25, 3) := by decide +kernel
theorem dX11_worthOf_26 : decode cX11_worthOf 26 = .ok (.iload_n 2, 1) := by decide +kernel
theorem dX11_worthOf_27 : decode cX11_worthOf 27 = .ok (.iaload, 1) := by decide +kernel
theorem dX11_worthOf_28 : decode cX11_worthOf 28 = .ok (.aload_n 0, 1) := by decide +kernel
theorem dX11_worthOf_29 : decode cX11_worthOf 29 = .ok (.getfield 28, 3) := by decide +kernel
theorem dX11_worthOf_32 : decode cX11_worthOf 32 = .ok (.iload_n 2, 1) := by decide +kernel
theorem dX11_worthOf_33 : decode cX11_worthOf 33 = .ok (.iaload, 1) := by decide +kernel
theorem dX11_worthOf_34 : decode cX11_worthOf 34 = .ok (.if_icmp .eq 23, 3) := by decide +kernel
theorem dX11_worthOf_37 : decode cX11_worthOf 37 = .ok (.aload_n 0, 1) := by decide +kernel
theorem dX11_worthOf_38 : decode cX11_worthOf 38 = .ok (.iload_n 1, 1) := by decide +kernel
theorem dX11_worthOf_39 : decode cX11_worthOf 39 = .ok (.aload_n 0, 1) := by decide +kernel
theorem dX11_worthOf_40 : decode cX11_worthOf 40 = .ok (.getfield 25, 3) := by decide +kernel
theorem dX11_worthOf_43 : decode cX11_worthOf 43 = .ok (.iload_n 2, 1) := by decide +kernel
theorem dX11_worthOf_44 : decode cX11_worthOf 44 = .ok (.iaload, 1) := by decide +kernel
theorem dX11_worthOf_45 : decode cX11_worthOf 45 = .ok (.aload_n 0, 1) := by decide +kernel
theorem dX11_worthOf_46 : decode cX11_worthOf 46 = .ok (.getfield 28, 3) := by decide +kernel
theorem dX11_worthOf_49 : decode cX11_worthOf 49 = .ok (.iload_n 2, 1) := by decide +kernel
theorem dX11_worthOf_50 : decode cX11_worthOf 50 = .ok (.iaload, 1) := by decide +kernel
theorem dX11_worthOf_51 : decode cX11_worthOf 51 = .ok (.invokevirtual 204, 3) := by decide +kernel
theorem dX11_worthOf_54 : decode cX11_worthOf 54 = .ok (.ifCond .eq 21, 3) := by decide +kernel
theorem dX11_worthOf_57 : decode cX11_worthOf 57 = .ok (.aload_n 0, 1) := by decide +kernel
theorem dX11_worthOf_58 : decode cX11_worthOf 58 = .ok (.iload_n 1, 1) := by decide +kernel
theorem dX11_worthOf_59 : decode cX11_worthOf 59 = .ok (.aload_n 0, 1) := by decide +kernel
theorem dX11_worthOf_60 : decode cX11_worthOf 60 = .ok (.getfield 28, 3) := by decide +kernel
theorem dX11_worthOf_63 : decode cX11_worthOf 63 = .ok (.iload_n 2, 1) := by decide +kernel
theorem dX11_worthOf_64 : decode cX11_worthOf 64 = .ok (.iaload, 1) := by decide +kernel
theorem dX11_worthOf_65 : decode cX11_worthOf 65 = .ok (.aload_n 0, 1) := by decide +kernel
theorem dX11_worthOf_66 : decode cX11_worthOf 66 = .ok (.getfield 31, 3) := by decide +kernel
theorem dX11_worthOf_69 : decode cX11_worthOf 69 = .ok (.iload_n 2, 1) := by decide +kernel
theorem dX11_worthOf_70 : decode cX11_worthOf 70 = .ok (.iaload, 1) := by decide +kernel
theorem dX11_worthOf_71 : decode cX11_worthOf 71 = .ok (.invokevirtual 204, 3) := by decide +kernel
theorem dX11_worthOf_74 : decode cX11_worthOf 74 = .ok (.ireturn, 1) := by decide +kernel
theorem dX11_worthOf_75 : decode cX11_worthOf 75 = .ok (.iinc 2 1, 3) := by decide +kernel
theorem dX11_worthOf_78 : decode cX11_worthOf 78 = .ok (.goto (-72), 3) := by decide +kernel
theorem dX11_worthOf_81 : decode cX11_worthOf 81 = .ok (.iconst 0, 1) := by decide +kernel
theorem dX11_worthOf_82 : decode cX11_worthOf 82 = .ok (.ireturn, 1) := by decide +kernel
theorem dX11_number_0 : decode cX11_number 0 = .ok (.aload_n 0, 1) := by decide +kernel
theorem dX11_number_1 : decode cX11_number 1 = .ok (.invokevirtual 122, 3) := by decide +kernel
theorem dX11_number_4 : decode cX11_number 4 = .ok (.invokestatic 125, 3) := by decide +kernel
theorem dX11_number_7 : decode cX11_number 7 = .ok (.ifCond .ne 9, 3) := by decide +kernel
theorem dX11_number_10 : decode cX11_number 10 = .ok (.aload_n 0, 1) := by decide +kernel
theorem dX11_number_11 : decode cX11_number 11 = .ok (.invokevirtual 119, 3) := by decide +kernel
theorem dX11_number_14 : decode cX11_number 14 = .ok (.iload_n 1, 1) := by decide +kernel
theorem dX11_number_15 : decode cX11_number 15 = .ok (.ireturn, 1) := by decide +kernel
theorem dX11_number_16 : decode cX11_number 16 = .ok (.aload_n 0, 1) := by decide +kernel
theorem dX11_number_17 : decode cX11_number 17 = .ok (.invokevirtual 106, 3) := by decide +kernel
theorem dX11_number_20 : decode cX11_number 20 = .ok (.bipush 48, 2) := by decide +kernel
theorem dX11_number_22 : decode cX11_number 22 = .ok (.isub, 1) := by decide +kernel
theorem dX11_number_23 : decode cX11_number 23 = .ok (.istore_n 3, 1) := by decide +kernel
theorem dX11_number_24 : decode cX11_number 24 = .ok (.aload_n 0, 1) := by decide +kernel
theorem dX11_number_25 : decode cX11_number 25 = .ok (.dup, 1) := by decide +kernel
theorem dX11_number_26 : decode cX11_number 26 = .ok (.getfield 103, 3) := by decide +kernel
theorem dX11_number_29 : decode cX11_number 29 = .ok (.iconst 1, 1) := by decide +kernel
theorem dX11_number_30 : decode cX11_number 30 = .ok (.iadd, 1) := by decide +kernel
theorem dX11_number_31 : decode cX11_number 31 = .ok (.putfield 103, 3) := by decide +kernel
theorem dX11_number_34 : decode cX11_number 34 = .ok (.aload_n 0, 1) := by decide +kernel
theorem dX11_number_35 : decode cX11_number 35 = .ok (.invokevirtual 106, 3) := by decide +kernel
theorem dX11_number_38 : decode cX11_number 38 = .ok (.invokestatic 125, 3) := by decide +kernel
theorem dX11_number_41 : decode cX11_number 41 = .ok (.ifCond .eq 26, 3) := by decide +kernel
theorem dX11_number_44 : decode cX11_number 44 = .ok (.bipush 10, 2) := by decide +kernel
theorem dX11_number_46 : decode cX11_number 46 = .ok (.iload_n 3, 1) := by decide +kernel
theorem dX11_number_47 : decode cX11_number 47 = .ok (.imul, 1) := by decide +kernel
theorem dX11_number_48 : decode cX11_number 48 = .ok (.aload_n 0, 1) := by decide +kernel
theorem dX11_number_49 : decode cX11_number 49 = .ok (.invokevirtual 106, 3) := by decide +kernel
theorem dX11_number_52 : decode cX11_number 52 = .ok (.iadd, 1) := by decide +kernel
theorem dX11_number_53 : decode cX11_number 53 = .ok (.bipush 48, 2) := by decide +kernel
theorem dX11_number_55 : decode cX11_number 55 = .ok (.isub, 1) := by decide +kernel
theorem dX11_number_56 : decode cX11_number 56 = .ok (.istore_n 3, 1) := by decide +kernel
theorem dX11_number_57 : decode cX11_number 57 = .ok (.aload_n 0, 1) := by decide +kernel
theorem dX11_number_58 : decode cX11_number 58 = .ok (.dup, 1) := by decide +kernel
theorem dX11_number_59 : decode cX11_number 59 = .ok (.getfield 103, 3) := by decide +kernel
theorem dX11_number_62 : decode cX11_number 62 = .ok (.iconst 1, 1) := by decide +kernel
theorem dX11_number_63 : decode cX11_number 63 = .ok (.iadd, 1) := by decide +kernel
theorem dX11_number_64 : decode cX11_number 64 = .ok (.putfield 103, 3) := by decide +kernel
theorem dX11_number_67 : decode cX11_number 67 = .ok (.aload_n 0, 1) := by decide +kernel
theorem dX11_number_68 : decode cX11_number 68 = .ok (.invokevirtual 106, 3) := by decide +kernel
theorem dX11_number_71 : decode cX11_number 71 = .ok (.invokestatic 125, 3) := by decide +kernel
theorem dX11_number_74 : decode cX11_number 74 = .ok (.ifCond .eq 10, 3) := by decide +kernel
theorem dX11_number_77 : decode cX11_number 77 = .ok (.aload_n 0, 1) := by decide +kernel
theorem dX11_number_78 : decode cX11_number 78 = .ok (.invokevirtual 119, 3) := by decide +kernel
theorem dX11_number_81 : decode cX11_number 81 = .ok (.goto 26, 3) := by decide +kernel
theorem dX11_number_84 : decode cX11_number 84 = .ok (.iload_n 3, 1) := by decide +kernel
theorem dX11_number_85 : decode cX11_number 85 = .ok (.iload_n 1, 1) := by decide +kernel
theorem dX11_number_86 : decode cX11_number 86 = .ok (.iload_n 2, 1) := by decide +kernel
theorem dX11_number_87 : decode cX11_number 87 = .ok (.invokestatic 208, 3) := by decide +kernel
theorem dX11_number_90 : decode cX11_number 90 = .ok (.ifCond .ne 17, 3) := by decide +kernel
theorem dX11_number_93 : decode cX11_number 93 = .ok (.aload_n 0, 1) := by decide +kernel
theorem dX11_number_94 : decode cX11_number 94 = .ok (.dup, 1) := by decide +kernel
theorem dX11_number_95 : decode cX11_number 95 = .ok (.getfield 103, 3) := by decide +kernel
theorem dX11_number_98 : decode cX11_number 98 = .ok (.iconst 1, 1) := by decide +kernel
theorem dX11_number_99 : decode cX11_number 99 = .ok (.isub, 1) := by decide +kernel
theorem dX11_number_100 : decode cX11_number 100 = .ok (.putfield 103, 3) := by decide +kernel
theorem dX11_number_103 : decode cX11_number 103 = .ok (.aload_n 0, 1) := by decide +kernel
theorem dX11_number_104 : decode cX11_number 104 = .ok (.invokevirtual 119, 3) := by decide +kernel
theorem dX11_number_107 : decode cX11_number 107 = .ok (.iload_n 3, 1) := by decide +kernel
theorem dX11_number_108 : decode cX11_number 108 = .ok (.ireturn, 1) := by decide +kernel
theorem dX11_itemOf_0 : decode cX11_itemOf 0 = .ok (.iload_n 0, 1) := by decide +kernel
theorem dX11_itemOf_1 : decode cX11_itemOf 1 = .ok (.lookupswitch 121 #[(98, 67), (109, 89), (115, 35)], 35) := by decide +kernel
theorem dX11_itemOf_36 : decode cX11_itemOf 36 = .ok (.iload_n 1, 1) := by decide +kernel
theorem dX11_itemOf_37 : decode cX11_itemOf 37 = .ok (.bipush 108, 2) := by decide +kernel
theorem dX11_itemOf_39 : decode cX11_itemOf 39 = .ok (.if_icmp .ne 7, 3) := by decide +kernel
theorem dX11_itemOf_42 : decode cX11_itemOf 42 = .ok (.iconst 0, 1) := by decide +kernel
theorem dX11_itemOf_43 : decode cX11_itemOf 43 = .ok (.goto 24, 3) := by decide +kernel
theorem dX11_itemOf_46 : decode cX11_itemOf 46 = .ok (.iload_n 1, 1) := by decide +kernel
theorem dX11_itemOf_47 : decode cX11_itemOf 47 = .ok (.bipush 114, 2) := by decide +kernel
theorem dX11_itemOf_49 : decode cX11_itemOf 49 = .ok (.if_icmp .ne 7, 3) := by decide +kernel
theorem dX11_itemOf_52 : decode cX11_itemOf 52 = .ok (.iconst 1, 1) := by decide +kernel
theorem dX11_itemOf_53 : decode cX11_itemOf 53 = .ok (.goto 14, 3) := by decide +kernel
theorem dX11_itemOf_56 : decode cX11_itemOf 56 = .ok (.iload_n 1, 1) := by decide +kernel
theorem dX11_itemOf_57 : decode cX11_itemOf 57 = .ok (.bipush 99, 2) := by decide +kernel
theorem dX11_itemOf_59 : decode cX11_itemOf 59 = .ok (.if_icmp .ne 7, 3) := by decide +kernel
theorem dX11_itemOf_62 : decode cX11_itemOf 62 = .ok (.iconst 2, 1) := by decide +kernel
theorem dX11_itemOf_63 : decode cX11_itemOf 63 = .ok (.goto 4, 3) := by decide +kernel
theorem dX11_itemOf_66 : decode cX11_itemOf 66 = .ok (.iconst (-1), 1) := by decide +kernel
theorem dX11_itemOf_67 : decode cX11_itemOf 67 = .ok (.ireturn, 1) := by decide +kernel
theorem dX11_itemOf_68 : decode cX11_itemOf 68 = .ok (.iload_n 1, 1) := by decide +kernel
theorem dX11_itemOf_69 : decode cX11_itemOf 69 = .ok (.bipush 107, 2) := by decide +kernel
theorem dX11_itemOf_71 : decode cX11_itemOf 71 = .ok (.if_icmp .ne 7, 3) := by decide +kernel
theorem dX11_itemOf_74 : decode cX11_itemOf 74 = .ok (.iconst 0, 1) := by decide +kernel
theorem dX11_itemOf_75 : decode cX11_itemOf 75 = .ok (.goto 14, 3) := by decide +kernel
theorem dX11_itemOf_78 : decode cX11_itemOf 78 = .ok (.iload_n 1, 1) := by decide +kernel
theorem dX11_itemOf_79 : decode cX11_itemOf 79 = .ok (.bipush 112, 2) := by decide +kernel
theorem dX11_itemOf_81 : decode cX11_itemOf 81 = .ok (.if_icmp .ne 7, 3) := by decide +kernel
theorem dX11_itemOf_84 : decode cX11_itemOf 84 = .ok (.iconst 1, 1) := by decide +kernel
theorem dX11_itemOf_85 : decode cX11_itemOf 85 = .ok (.goto 4, 3) := by decide +kernel
theorem dX11_itemOf_88 : decode cX11_itemOf 88 = .ok (.iconst (-1), 1) := by decide +kernel
theorem dX11_itemOf_89 : decode cX11_itemOf 89 = .ok (.ireturn, 1) := by decide +kernel
theorem dX11_itemOf_90 : decode cX11_itemOf 90 = .ok (.iload_n 1, 1) := by decide +kernel
theorem dX11_itemOf_91 : decode cX11_itemOf 91 = .ok (.bipush 111, 2) := by decide +kernel
theorem dX11_itemOf_93 : decode cX11_itemOf 93 = .ok (.if_icmp .ne 7, 3) := by decide +kernel
theorem dX11_itemOf_96 : decode cX11_itemOf 96 = .ok (.iconst 0, 1) := by decide +kernel
theorem dX11_itemOf_97 : decode cX11_itemOf 97 = .ok (.goto 24, 3) := by decide +kernel
theorem dX11_itemOf_100 : decode cX11_itemOf 100 = .ok (.iload_n 1, 1) := by decide +kernel
theorem dX11_itemOf_101 : decode cX11_itemOf 101 = .ok (.bipush 119, 2) := by decide +kernel
theorem dX11_itemOf_103 : decode cX11_itemOf 103 = .ok (.if_icmp .ne 7, 3) := by decide +kernel
theorem dX11_itemOf_106 : decode cX11_itemOf 106 = .ok (.iconst 1, 1) := by decide +kernel
theorem dX11_itemOf_107 : decode cX11_itemOf 107 = .ok (.goto 14, 3) := by decide +kernel
theorem dX11_itemOf_110 : decode cX11_itemOf 110 = .ok (.iload_n 1, 1) := by decide +kernel
theorem dX11_itemOf_111 : decode cX11_itemOf 111 = .ok (.bipush 115, 2) := by decide +kernel
theorem dX11_itemOf_113 : decode cX11_itemOf 113 = .ok (.if_icmp .ne 7, 3) := by decide +kernel
theorem dX11_itemOf_116 : decode cX11_itemOf 116 = .ok (.iconst 2, 1) := by decide +kernel
theorem dX11_itemOf_117 : decode cX11_itemOf 117 = .ok (.goto 4, 3) := by decide +kernel
theorem dX11_itemOf_120 : decode cX11_itemOf 120 = .ok (.iconst (-1), 1) := by decide +kernel
theorem dX11_itemOf_121 : decode cX11_itemOf 121 = .ok (.ireturn, 1) := by decide +kernel
theorem dX11_itemOf_122 : decode cX11_itemOf 122 = .ok (.iload_n 1, 1) := by decide +kernel
theorem dX11_itemOf_123 : decode cX11_itemOf 123 = .ok (.bipush 112, 2) := by decide +kernel
theorem dX11_itemOf_125 : decode cX11_itemOf 125 = .ok (.if_icmp .ne 7, 3) := by decide +kernel
theorem dX11_itemOf_128 : decode cX11_itemOf 128 = .ok (.iconst 0, 1) := by decide +kernel
theorem dX11_itemOf_129 : decode cX11_itemOf 129 = .ok (.goto 24, 3) := by decide +kernel
theorem dX11_itemOf_132 : decode cX11_itemOf 132 = .ok (.iload_n 1, 1) := by decide +kernel
theorem dX11_itemOf_133 : decode cX11_itemOf 133 = .ok (.bipush 119, 2) := by decide +kernel
theorem dX11_itemOf_135 : decode cX11_itemOf 135 = .ok (.if_icmp .ne 7, 3) := by decide +kernel
theorem dX11_itemOf_138 : decode cX11_itemOf 138 = .ok (.iconst 1, 1) := by decide +kernel
theorem dX11_itemOf_139 : decode cX11_itemOf 139 = .ok (.goto 14, 3) := by decide +kernel
theorem dX11_itemOf_142 : decode cX11_itemOf 142 = .ok (.iload_n 1, 1) := by decide +kernel
theorem dX11_itemOf_143 : decode cX11_itemOf 143 = .ok (.bipush 110, 2) := by decide +kernel
theorem dX11_itemOf_145 : decode cX11_itemOf 145 = .ok (.if_icmp .ne 7, 3) := by decide +kernel
theorem dX11_itemOf_148 : decode cX11_itemOf 148 = .ok (.iconst 2, 1) := by decide +kernel
theorem dX11_itemOf_149 : decode cX11_itemOf 149 = .ok (.goto 4, 3) := by decide +kernel
theorem dX11_itemOf_152 : decode cX11_itemOf 152 = .ok (.iconst (-1), 1) := by decide +kernel
theorem dX11_itemOf_153 : decode cX11_itemOf 153 = .ok (.ireturn, 1) := by decide +kernel
theorem dX11_lowest_0 : decode cX11_lowest 0 = .ok (.iload_n 0, 1) := by decide +kernel
theorem dX11_lowest_1 : decode cX11_lowest 1 = .ok (.lookupswitch 75 #[(98, 54), (109, 64), (115, 35)], 35) := by decide +kernel
theorem dX11_lowest_36 : decode cX11_lowest 36 = .ok (.iload_n 1, 1) := by decide +kernel
theorem dX11_lowest_37 : decode cX11_lowest 37 = .ok (.ifCond .ne 7, 3) := by decide +kernel
theorem dX11_lowest_40 : decode cX11_lowest 40 = .ok (.iconst 3, 1) := by decide +kernel
theorem dX11_lowest_41 : decode cX11_lowest 41 = .ok (.goto 13, 3) := by decide +kernel
theorem dX11_lowest_44 : decode cX11_lowest 44 = .ok (.iload_n 1, 1) := by decide +kernel
theorem dX11_lowest_45 : decode cX11_lowest 45 = .ok (.iconst 1, 1) := by decide +kernel
theorem dX11_lowest_46 : decode cX11_lowest 46 = .ok (.if_icmp .ne 7, 3) := by decide +kernel
theorem dX11_lowest_49 : decode cX11_lowest 49 = .ok (.iconst 1, 1) := by decide +kernel
theorem dX11_lowest_50 : decode cX11_lowest 50 = .ok (.goto 4, 3) := by decide +kernel
theorem dX11_lowest_53 : decode cX11_lowest 53 = .ok (.iconst 0, 1) := by decide +kernel
theorem dX11_lowest_54 : decode cX11_lowest 54 = .ok (.ireturn, 1) := by decide +kernel
theorem dX11_lowest_55 : decode cX11_lowest 55 = .ok (.iload_n 1, 1) := by decide +kernel
theorem dX11_lowest_56 : decode cX11_lowest 56 = .ok (.ifCond .ne 7, 3) := by decide +kernel
theorem dX11_lowest_59 : decode cX11_lowest 59 = .ok (.iconst 1, 1) := by decide +kernel
theorem dX11_lowest_60 : decode cX11_lowest 60 = .ok (.goto 4, 3) := by decide +kernel
theorem dX11_lowest_63 : decode cX11_lowest 63 = .ok (.iconst 0, 1) := by decide +kernel
theorem dX11_lowest_64 : decode cX11_lowest 64 = .ok (.ireturn, 1) := by decide +kernel
theorem dX11_lowest_65 : decode cX11_lowest 65 = .ok (.iload_n 1, 1) := by decide +kernel
theorem dX11_lowest_66 : decode cX11_lowest 66 = .ok (.iconst 2, 1) := by decide +kernel
theorem dX11_lowest_67 : decode cX11_lowest 67 = .ok (.if_icmp .ne 7, 3) := by decide +kernel
theorem dX11_lowest_70 : decode cX11_lowest 70 = .ok (.iconst 1, 1) := by decide +kernel
theorem dX11_lowest_71 : decode cX11_lowest 71 = .ok (.goto 4, 3) := by decide +kernel
theorem dX11_lowest_74 : decode cX11_lowest 74 = .ok (.iconst 0, 1) := by decide +kernel
theorem dX11_lowest_75 : decode cX11_lowest 75 = .ok (.ireturn, 1) := by decide +kernel
theorem dX11_lowest_76 : decode cX11_lowest 76 = .ok (.iconst 0, 1) := by decide +kernel
theorem dX11_lowest_77 : decode cX11_lowest 77 = .ok (.ireturn, 1) := by decide +kernel
theorem dX11_highest_0 : decode cX11_highest 0 = .ok (.iload_n 0, 1) := by decide +kernel
theorem dX11_highest_1 : decode cX11_highest 1 = .ok (.lookupswitch 80 #[(98, 57), (109, 60), (115, 35)], 35) := by decide +kernel
theorem dX11_highest_36 : decode cX11_highest 36 = .ok (.iload_n 1, 1) := by decide +kernel
theorem dX11_highest_37 : decode cX11_highest 37 = .ok (.ifCond .ne 8, 3) := by decide +kernel
theorem dX11_highest_40 : decode cX11_highest 40 = .ok (.bipush 30, 2) := by decide +kernel
theorem dX11_highest_42 : decode cX11_highest 42 = .ok (.goto 15, 3) := by decide +kernel
theorem dX11_highest_45 : decode cX11_highest 45 = .ok (.iload_n 1, 1) := by decide +kernel
theorem dX11_highest_46 : decode cX11_highest 46 = .ok (.iconst 1, 1) := by decide +kernel
theorem dX11_highest_47 : decode cX11_highest 47 = .ok (.if_icmp .ne 8, 3) := by decide +kernel
theorem dX11_highest_50 : decode cX11_highest 50 = .ok (.bipush 9, 2) := by decide +kernel
theorem dX11_highest_52 : decode cX11_highest 52 = .ok (.goto 5, 3) := by decide +kernel
theorem dX11_highest_55 : decode cX11_highest 55 = .ok (.bipush 99, 2) := by decide +kernel
theorem dX11_highest_57 : decode cX11_highest 57 = .ok (.ireturn, 1) := by decide +kernel
theorem dX11_highest_58 : decode cX11_highest 58 = .ok (.bipush 9, 2) := by decide +kernel
theorem dX11_highest_60 : decode cX11_highest 60 = .ok (.ireturn, 1) := by decide +kernel
theorem dX11_highest_61 : decode cX11_highest 61 = .ok (.iload_n 1, 1) := by decide +kernel
theorem dX11_highest_62 : decode cX11_highest 62 = .ok (.ifCond .ne 7, 3) := by decide +kernel
theorem dX11_highest_65 : decode cX11_highest 65 = .ok (.iconst 4, 1) := by decide +kernel
theorem dX11_highest_66 : decode cX11_highest 66 = .ok (.goto 14, 3) := by decide +kernel
theorem dX11_highest_69 : decode cX11_highest 69 = .ok (.iload_n 1, 1) := by decide +kernel
theorem dX11_highest_70 : decode cX11_highest 70 = .ok (.iconst 1, 1) := by decide +kernel
theorem dX11_highest_71 : decode cX11_highest 71 = .ok (.if_icmp .ne 7, 3) := by decide +kernel
theorem dX11_highest_74 : decode cX11_highest 74 = .ok (.iconst 5, 1) := by decide +kernel
theorem dX11_highest_75 : decode cX11_highest 75 = .ok (.goto 5, 3) := by decide +kernel
theorem dX11_highest_78 : decode cX11_highest 78 = .ok (.bipush 9, 2) := by decide +kernel
theorem dX11_highest_80 : decode cX11_highest 80 = .ok (.ireturn, 1) := by decide +kernel
theorem dX11_highest_81 : decode cX11_highest 81 = .ok (.iload_n 1, 1) := by decide +kernel
theorem dX11_highest_82 : decode cX11_highest 82 = .ok (.iconst 1, 1) := by decide +kernel
theorem dX11_highest_83 : decode cX11_highest 83 = .ok (.if_icmp .ne 7, 3) := by decide +kernel
theorem dX11_highest_86 : decode cX11_highest 86 = .ok (.iconst 5, 1) := by decide +kernel
theorem dX11_highest_87 : decode cX11_highest 87 = .ok (.goto 5, 3) := by decide +kernel
theorem dX11_highest_90 : decode cX11_highest 90 = .ok (.bipush 9, 2) := by decide +kernel
theorem dX11_highest_92 : decode cX11_highest 92 = .ok (.ireturn, 1) := by decide +kernel
theorem dX11_usual_0 : decode cX11_usual 0 = .ok (.iload_n 0, 1) := by decide +kernel
theorem dX11_usual_1 : decode cX11_usual 1 = .ok (.lookupswitch 77 #[(98, 56), (109, 66), (115, 35)], 35) := by decide +kernel
theorem dX11_usual_36 : decode cX11_usual 36 = .ok (.iload_n 1, 1) := by decide +kernel
theorem dX11_usual_37 : decode cX11_usual 37 = .ok (.ifCond .ne 8, 3) := by decide +kernel
theorem dX11_usual_40 : decode cX11_usual 40 = .ok (.bipush 12, 2) := by decide +kernel
theorem dX11_usual_42 : decode cX11_usual 42 = .ok (.goto 14, 3) := by decide +kernel
theorem dX11_usual_45 : decode cX11_usual 45 = .ok (.iload_n 1, 1) := by decide +kernel
theorem dX11_usual_46 : decode cX11_usual 46 = .ok (.iconst 1, 1) := by decide +kernel
theorem dX11_usual_47 : decode cX11_usual 47 = .ok (.if_icmp .ne 7, 3) := by decide +kernel
theorem dX11_usual_50 : decode cX11_usual 50 = .ok (.iconst 3, 1) := by decide +kernel
theorem dX11_usual_51 : decode cX11_usual 51 = .ok (.goto 5, 3) := by decide +kernel
theorem dX11_usual_54 : decode cX11_usual 54 = .ok (.bipush 10, 2) := by decide +kernel
theorem dX11_usual_56 : decode cX11_usual 56 = .ok (.ireturn, 1) := by decide +kernel
theorem dX11_usual_57 : decode cX11_usual 57 = .ok (.iload_n 1, 1) := by decide +kernel
theorem dX11_usual_58 : decode cX11_usual 58 = .ok (.ifCond .ne 7, 3) := by decide +kernel
theorem dX11_usual_61 : decode cX11_usual 61 = .ok (.iconst 5, 1) := by decide +kernel
theorem dX11_usual_62 : decode cX11_usual 62 = .ok (.goto 4, 3) := by decide +kernel
theorem dX11_usual_65 : decode cX11_usual 65 = .ok (.iconst 0, 1) := by decide +kernel
theorem dX11_usual_66 : decode cX11_usual 66 = .ok (.ireturn, 1) := by decide +kernel
theorem dX11_usual_67 : decode cX11_usual 67 = .ok (.iload_n 1, 1) := by decide +kernel
theorem dX11_usual_68 : decode cX11_usual 68 = .ok (.iconst 2, 1) := by decide +kernel
theorem dX11_usual_69 : decode cX11_usual 69 = .ok (.if_icmp .ne 7, 3) := by decide +kernel
theorem dX11_usual_72 : decode cX11_usual 72 = .ok (.iconst 3, 1) := by decide +kernel
theorem dX11_usual_73 : decode cX11_usual 73 = .ok (.goto 4, 3) := by decide +kernel
theorem dX11_usual_76 : decode cX11_usual 76 = .ok (.iconst 0, 1) := by decide +kernel
theorem dX11_usual_77 : decode cX11_usual 77 = .ok (.ireturn, 1) := by decide +kernel
theorem dX11_usual_78 : decode cX11_usual 78 = .ok (.iload_n 1, 1) := by decide +kernel
theorem dX11_usual_79 : decode cX11_usual 79 = .ok (.iconst 2, 1) := by decide +kernel
theorem dX11_usual_80 : decode cX11_usual 80 = .ok (.if_icmp .ne 7, 3) := by decide +kernel
theorem dX11_usual_83 : decode cX11_usual 83 = .ok (.iconst 2, 1) := by decide +kernel
theorem dX11_usual_84 : decode cX11_usual 84 = .ok (.goto 4, 3) := by decide +kernel
theorem dX11_usual_87 : decode cX11_usual 87 = .ok (.iconst 0, 1) := by decide +kernel
theorem dX11_usual_88 : decode cX11_usual 88 = .ok (.ireturn, 1) := by decide +kernel
theorem dX11_items_0 : decode cX11_items 0 = .ok (.iconst 0, 1) := by decide +kernel
theorem dX11_items_1 : decode cX11_items 1 = .ok (.istore 5, 2) := by decide +kernel
theorem dX11_items_3 : decode cX11_items 3 = .ok (.iload 5, 2) := by decide +kernel
theorem dX11_items_5 : decode cX11_items 5 = .ok (.iload 4, 2) := by decide +kernel
theorem dX11_items_7 : decode cX11_items 7 = .ok (.if_icmp .ge 21, 3) := by decide +kernel
theorem dX11_items_10 : decode cX11_items 10 = .ok (.aload_n 2, 1) := by decide +kernel
theorem dX11_items_11 : decode cX11_items 11 = .ok (.iload_n 3, 1) := by decide +kernel
theorem dX11_items_12 : decode cX11_items 12 = .ok (.iload 5, 2) := by decide +kernel
theorem dX11_items_14 : decode cX11_items 14 = .ok (.iadd, 1) := by decide +kernel
theorem dX11_items_15 : decode cX11_items 15 = .ok (.iload_n 1, 1) := by decide +kernel
theorem dX11_items_16 : decode cX11_items 16 = .ok (.iload 5, 2) := by decide +kernel
theorem dX11_items_18 : decode cX11_items 18 = .ok (.invokestatic 212, 3) := by decide +kernel
theorem dX11_items_21 : decode cX11_items 21 = .ok (.iastore, 1) := by decide +kernel
theorem dX11_items_22 : decode cX11_items 22 = .ok (.iinc 5 1, 3) := by decide +kernel
theorem dX11_items_25 : decode cX11_items 25 = .ok (.goto (-22), 3) := by decide +kernel
theorem dX11_items_28 : decode cX11_items 28 = .ok (.iconst 0, 1) := by decide +kernel
theorem dX11_items_29 : decode cX11_items 29 = .ok (.istore 5, 2) := by decide +kernel
theorem dX11_items_31 : decode cX11_items 31 = .ok (.iload_n 1, 1) := by decide +kernel
theorem dX11_items_32 : decode cX11_items 32 = .ok (.aload_n 0, 1) := by decide +kernel
theorem dX11_items_33 : decode cX11_items 33 = .ok (.invokevirtual 122, 3) := by decide +kernel
theorem dX11_items_36 : decode cX11_items 36 = .ok (.invokestatic 216, 3) := by decide +kernel
theorem dX11_items_39 : decode cX11_items 39 = .ok (.istore 6, 2) := by decide +kernel
theorem dX11_items_41 : decode cX11_items 41 = .ok (.aload_n 0, 1) := by decide +kernel
theorem dX11_items_42 : decode cX11_items 42 = .ok (.getfield 110, 3) := by decide +kernel
theorem dX11_items_45 : decode cX11_items 45 = .ok (.iconst (-1), 1) := by decide +kernel
theorem dX11_items_46 : decode cX11_items 46 = .ok (.if_icmp .ne 85, 3) := by decide +kernel
theorem dX11_items_49 : decode cX11_items 49 = .ok (.iload 6, 2) := by decide +kernel
theorem dX11_items_51 : decode cX11_items 51 = .ok (.iconst (-1), 1) := by decide +kernel
theorem dX11_items_52 : decode cX11_items 52 = .ok (.if_icmp .eq 79, 3) := by decide +kernel
theorem dX11_items_55 : decode cX11_items 55 = .ok (.iload 5, 2) := by decide +kernel
theorem dX11_items_57 : decode cX11_items 57 = .ok (.iload 6, 2) := by decide +kernel
theorem dX11_items_59 : decode cX11_items 59 = .ok (.invokestatic 219, 3) := by decide +kernel
theorem dX11_items_62 : decode cX11_items 62 = .ok (.ifCond .ne 69, 3) := by decide +kernel
theorem dX11_items_65 : decode cX11_items 65 = .ok (.iload 5, 2) := by decide +kernel
theorem dX11_items_67 : decode cX11_items 67 = .ok (.iconst 1, 1) := by decide +kernel
theorem dX11_items_68 : decode cX11_items 68 = .ok (.iload 6, 2) := by decide +kernel
theorem dX11_items_70 : decode cX11_items 70 = .ok (.ishl, 1) := by decide +kernel
theorem dX11_items_71 : decode cX11_items 71 = .ok (.ior, 1) := by decide +kernel
theorem dX11_items_72 : decode cX11_items 72 = .ok (.istore 5, 2) := by decide +kernel
theorem dX11_items_74 : decode cX11_items 74 = .ok (.aload_n 0, 1) := by decide +kernel
theorem dX11_items_75 : decode cX11_items 75 = .ok (.dup, 1) := by decide +kernel
theorem dX11_items_76 : decode cX11_items 76 = .ok (.getfield 103, 3) := by decide +kernel
theorem dX11_items_79 : decode cX11_items 79 = .ok (.iconst 1, 1) := by decide +kernel
theorem dX11_items_80 : decode cX11_items 80 = .ok (.iadd, 1) := by decide +kernel
theorem dX11_items_81 : decode cX11_items 81 = .ok (.putfield 103, 3) := by decide +kernel
theorem dX11_items_84 : decode cX11_items 84 = .ok (.aload_n 2, 1) := by decide +kernel
theorem dX11_items_85 : decode cX11_items 85 = .ok (.iload_n 3, 1) := by decide +kernel
theorem dX11_items_86 : decode cX11_items 86 = .ok (.iload 6, 2) := by decide +kernel
theorem dX11_items_88 : decode cX11_items 88 = .ok (.iadd, 1) := by decide +kernel
theorem dX11_items_89 : decode cX11_items 89 = .ok (.aload_n 0, 1) := by decide +kernel
theorem dX11_items_90 : decode cX11_items 90 = .ok (.iload_n 1, 1) := by decide +kernel
theorem dX11_items_91 : decode cX11_items 91 = .ok (.iload 6, 2) := by decide +kernel
theorem dX11_items_93 : decode cX11_items 93 = .ok (.invokestatic 223, 3) := by decide +kernel
theorem dX11_items_96 : decode cX11_items 96 = .ok (.iload_n 1, 1) := by decide +kernel
theorem dX11_items_97 : decode cX11_items 97 = .ok (.iload 6, 2) := by decide +kernel
theorem dX11_items_99 : decode cX11_items 99 = .ok (.invokestatic 226, 3) := by decide +kernel
theorem dX11_items_102 : decode cX11_items 102 = .ok (.invokevirtual 229, 3) := by decide +kernel
theorem dX11_items_105 : decode cX11_items 105 = .ok (.iastore, 1) := by decide +kernel
theorem dX11_items_106 : decode cX11_items 106 = .ok (.aload_n 0, 1) := by decide +kernel
theorem dX11_items_107 : decode cX11_items 107 = .ok (.getfield 110, 3) := by decide +kernel
theorem dX11_items_110 : decode cX11_items 110 = .ok (.iconst (-1), 1) := by decide +kernel
theorem dX11_items_111 : decode cX11_items 111 = .ok (.if_icmp .ne 14, 3) := by decide +kernel
theorem dX11_items_114 : decode cX11_items 114 = .ok (.iload_n 1, 1) := by decide +kernel
theorem dX11_items_115 : decode cX11_items 115 = .ok (.aload_n 0, 1) := by decide +kernel
theorem dX11_items_116 : decode cX11_items 116 = .ok (.invokevirtual 122, 3) := by decide +kernel
theorem dX11_items_119 : decode cX11_items 119 = .ok (.invokestatic 216, 3) := by decide +kernel
theorem dX11_items_122 : decode cX11_items 122 = .ok (.goto 4, 3) := by decide +kernel
theorem dX11_items_125 : decode cX11_items 125 = .ok (.iconst (-1), 1) := by decide +kernel
theorem dX11_items_126 : decode cX11_items 126 = .ok (.istore 6, 2) := by decide +kernel
theorem dX11_items_128 : decode cX11_items 128 = .ok (.goto (-87), 3) := by decide +kernel
theorem dX11_items_131 : decode cX11_items 131 = .ok (.return_, 1) := by decide +kernel
theorem dX11_clauseText_0 : decode cX11_clauseText 0 = .ok (.aload_n 0, 1) := by decide +kernel
theorem dX11_clauseText_1 : decode cX11_clauseText 1 = .ok (.dup, 1) := by decide +kernel
theorem dX11_clauseText_2 : decode cX11_clauseText 2 = .ok (.getfield 103, 3) := by decide +kernel
theorem dX11_clauseText_5 : decode cX11_clauseText 5 = .ok (.iconst 1, 1) := by decide +kernel
theorem dX11_clauseText_6 : decode cX11_clauseText 6 = .ok (.iadd, 1) := by decide +kernel
theorem dX11_clauseText_7 : decode cX11_clauseText 7 = .ok (.putfield 103, 3) := by decide +kernel
theorem dX11_clauseText_10 : decode cX11_clauseText 10 = .ok (.iload_n 1, 1) := by decide +kernel
theorem dX11_clauseText_11 : decode cX11_clauseText 11 = .ok (.lookupswitch 105 #[(98, 47), (109, 76), (115, 33)], 33) := by decide +kernel
theorem dX11_clauseText_44 : decode cX11_clauseText 44 = .ok (.aload_n 0, 1) := by decide +kernel
theorem dX11_clauseText_45 : decode cX11_clauseText 45 = .ok (.iload_n 1, 1) := by decide +kernel
theorem dX11_clauseText_46 : decode cX11_clauseText 46 = .ok (.aload_n 0, 1) := by decide +kernel
theorem dX11_clauseText_47 : decode cX11_clauseText 47 = .ok (.getfield 40, 3) := by decide +kernel
theorem dX11_clauseText_50 : decode cX11_clauseText 50 = .ok (.iconst 0, 1) := by decide +kernel
theorem dX11_clauseText_51 : decode cX11_clauseText 51 = .ok (.iconst 3, 1) := by decide +kernel
theorem dX11_clauseText_52 : decode cX11_clauseText 52 = .ok (.invokevirtual 232, 3) := by decide +kernel
theorem dX11_clauseText_55 : decode cX11_clauseText 55 = .ok (.goto 87, 3) := by decide +kernel
theorem dX11_clauseText_58 : decode cX11_clauseText 58 = .ok (.aload_n 0, 1) := by decide +kernel
theorem dX11_clauseText_59 : decode cX11_clauseText 59 = .ok (.iload_n 1, 1) := by decide +kernel
theorem dX11_clauseText_60 : decode cX11_clauseText 60 = .ok (.aload_n 0, 1) := by decide +kernel
theorem dX11_clauseText_61 : decode cX11_clauseText 61 = .ok (.getfield 43, 3) := by decide +kernel
theorem dX11_clauseText_64 : decode cX11_clauseText 64 = .ok (.iconst 2, 1) := by decide +kernel
theorem dX11_clauseText_65 : decode cX11_clauseText 65 = .ok (.aload_n 0, 1) := by decide +kernel
theorem dX11_clauseText_66 : decode cX11_clauseText 66 = .ok (.getfield 236, 3) := by decide +kernel
theorem dX11_clauseText_69 : decode cX11_clauseText 69 = .ok (.imul, 1) := by decide +kernel
theorem dX11_clauseText_70 : decode cX11_clauseText 70 = .ok (.iconst 2, 1) := by decide +kernel
theorem dX11_clauseText_71 : decode cX11_clauseText 71 = .ok (.invokevirtual 232, 3) := by decide +kernel
theorem dX11_clauseText_74 : decode cX11_clauseText 74 = .ok (.aload_n 0, 1) := by decide +kernel
theorem dX11_clauseText_75 : decode cX11_clauseText 75 = .ok (.dup, 1) := by decide +kernel
theorem dX11_clauseText_76 : decode cX11_clauseText 76 = .ok (.getfield 236, 3) := by decide +kernel
theorem dX11_clauseText_79 : decode cX11_clauseText 79 = .ok (.iconst 1, 1) := by decide +kernel
theorem dX11_clauseText_80 : decode cX11_clauseText 80 = .ok (.iadd, 1) := by decide +kernel
theorem dX11_clauseText_81 : decode cX11_clauseText 81 = .ok (.putfield 236, 3) := by decide +kernel
theorem dX11_clauseText_84 : decode cX11_clauseText 84 = .ok (.goto 58, 3) := by decide +kernel
theorem dX11_clauseText_87 : decode cX11_clauseText 87 = .ok (.aload_n 0, 1) := by decide +kernel
theorem dX11_clauseText_88 : decode cX11_clauseText 88 = .ok (.iload_n 1, 1) := by decide +kernel
theorem dX11_clauseText_89 : decode cX11_clauseText 89 = .ok (.aload_n 0, 1) := by decide +kernel
theorem dX11_clauseText_90 : decode cX11_clauseText 90 = .ok (.getfield 46, 3) := by decide +kernel
theorem dX11_clauseText_93 : decode cX11_clauseText 93 = .ok (.iconst 3, 1) := by decide +kernel
theorem dX11_clauseText_94 : decode cX11_clauseText 94 = .ok (.aload_n 0, 1) := by decide +kernel
theorem dX11_clauseText_95 : decode cX11_clauseText 95 = .ok (.getfield 239, 3) := by decide +kernel
theorem dX11_clauseText_98 : decode cX11_clauseText 98 = .ok (.imul, 1) := by decide +kernel
theorem dX11_clauseText_99 : decode cX11_clauseText 99 = .ok (.iconst 3, 1) := by decide +kernel
theorem dX11_clauseText_100 : decode cX11_clauseText 100 = .ok (.invokevirtual 232, 3) := by decide +kernel
theorem dX11_clauseText_103 : decode cX11_clauseText 103 = .ok (.aload_n 0, 1) := by decide +kernel
theorem dX11_clauseText_104 : decode cX11_clauseText 104 = .ok (.dup, 1) := by decide +kernel
theorem dX11_clauseText_105 : decode cX11_clauseText 105 = .ok (.getfield 239, 3) := by decide +kernel
theorem dX11_clauseText_108 : decode cX11_clauseText 108 = .ok (.iconst 1, 1) := by decide +kernel
theorem dX11_clauseText_109 : decode cX11_clauseText 109 = .ok (.iadd, 1) := by decide +kernel
theorem dX11_clauseText_110 : decode cX11_clauseText 110 = .ok (.putfield 239, 3) := by decide +kernel
theorem dX11_clauseText_113 : decode cX11_clauseText 113 = .ok (.goto 29, 3) := by decide +kernel
theorem dX11_clauseText_116 : decode cX11_clauseText 116 = .ok (.aload_n 0, 1) := by decide +kernel
theorem dX11_clauseText_117 : decode cX11_clauseText 117 = .ok (.iload_n 1, 1) := by decide +kernel
theorem dX11_clauseText_118 : decode cX11_clauseText 118 = .ok (.aload_n 0, 1) := by decide +kernel
theorem dX11_clauseText_119 : decode cX11_clauseText 119 = .ok (.getfield 49, 3) := by decide +kernel
theorem dX11_clauseText_122 : decode cX11_clauseText 122 = .ok (.iconst 3, 1) := by decide +kernel
theorem dX11_clauseText_123 : decode cX11_clauseText 123 = .ok (.aload_n 0, 1) := by decide +kernel
theorem dX11_clauseText_124 : decode cX11_clauseText 124 = .ok (.getfield 242, 3) := by decide +kernel
theorem dX11_clauseText_127 : decode cX11_clauseText 127 = .ok (.imul, 1) := by decide +kernel
theorem dX11_clauseText_128 : decode cX11_clauseText 128 = .ok (.iconst 3, 1) := by decide +kernel
theorem dX11_clauseText_129 : decode cX11_clauseText 129 = .ok (.invokevirtual 232, 3) := by decide +kernel
theorem dX11_clauseText_132 : decode cX11_clauseText 132 = .ok (.aload_n 0, 1) := by decide +kernel
theorem dX11_clauseText_133 : decode cX11_clauseText 133 = .ok (.dup, 1) := by decide +kernel
theorem dX11_clauseText_134 : decode cX11_clauseText 134 = .ok (.getfield 242, 3) := by decide +kernel
theorem dX11_clauseText_137 : decode cX11_clauseText 137 = .ok (.iconst 1, 1) := by decide +kernel
theorem dX11_clauseText_138 : decode cX11_clauseText 138 = .ok (.iadd, 1) := by decide +kernel
theorem dX11_clauseText_139 : decode cX11_clauseText 139 = .ok (.putfield 242, 3) := by decide +kernel
theorem dX11_clauseText_142 : decode cX11_clauseText 142 = .ok (.return_, 1) := by decide +kernel
theorem dX11_isWhole_0 : decode cX11_isWhole 0 = .ok (.aload_n 0, 1) := by decide +kernel
theorem dX11_isWhole_1 : decode cX11_isWhole 1 = .ok (.getfield 236, 3) := by decide +kernel
theorem dX11_isWhole_4 : decode cX11_isWhole 4 = .ok (.ifCond .le 14, 3) := by decide +kernel
theorem dX11_isWhole_7 : decode cX11_isWhole 7 = .ok (.aload_n 0, 1) := by decide +kernel
theorem dX11_isWhole_8 : decode cX11_isWhole 8 = .ok (.getfield 239, 3) := by decide +kernel
theorem dX11_isWhole_11 : decode cX11_isWhole 11 = .ok (.ifCond .le 7, 3) := by decide +kernel
theorem dX11_isWhole_14 : decode cX11_isWhole 14 = .ok (.iconst 1, 1) := by decide +kernel
theorem dX11_isWhole_15 : decode cX11_isWhole 15 = .ok (.goto 4, 3) := by decide +kernel
theorem dX11_isWhole_18 : decode cX11_isWhole 18 = .ok (.iconst 0, 1) := by decide +kernel
theorem dX11_isWhole_19 : decode cX11_isWhole 19 = .ok (.istore_n 1, 1) := by decide +kernel
theorem dX11_isWhole_20 : decode cX11_isWhole 20 = .ok (.iconst 0, 1) := by decide +kernel
theorem dX11_isWhole_21 : decode cX11_isWhole 21 = .ok (.istore_n 2, 1) := by decide +kernel
theorem dX11_isWhole_22 : decode cX11_isWhole 22 = .ok (.iload_n 2, 1) := by decide +kernel
theorem dX11_isWhole_23 : decode cX11_isWhole 23 = .ok (.aload_n 0, 1) := by decide +kernel
theorem dX11_isWhole_24 : decode cX11_isWhole 24 = .ok (.getfield 239, 3) := by decide +kernel
theorem dX11_isWhole_27 : decode cX11_isWhole 27 = .ok (.if_icmp .ge 36, 3) := by decide +kernel
theorem dX11_isWhole_30 : decode cX11_isWhole 30 = .ok (.iload_n 1, 1) := by decide +kernel
theorem dX11_isWhole_31 : decode cX11_isWhole 31 = .ok (.ifCond .eq 24, 3) := by decide +kernel
theorem dX11_isWhole_34 : decode cX11_isWhole 34 = .ok (.aload_n 0, 1) := by decide +kernel
theorem dX11_isWhole_35 : decode cX11_isWhole 35 = .ok (.getfield 46, 3) := by decide +kernel
theorem dX11_isWhole_38 : decode cX11_isWhole 38 = .ok (.iconst 3, 1) := by decide +kernel
theorem dX11_isWhole_39 : decode cX11_isWhole 39 = .ok (.iload_n 2, 1) := by decide +kernel
theorem dX11_isWhole_40 : decode cX11_isWhole 40 = .ok (.imul, 1) := by decide +kernel
theorem dX11_isWhole_41 : decode cX11_isWhole 41 = .ok (.iconst 0, 1) := by decide +kernel
theorem dX11_isWhole_42 : decode cX11_isWhole 42 = .ok (.iadd, 1) := by decide +kernel
theorem dX11_isWhole_43 : decode cX11_isWhole 43 = .ok (.iaload, 1) := by decide +kernel
theorem dX11_isWhole_44 : decode cX11_isWhole 44 = .ok (.aload_n 0, 1) := by decide +kernel
theorem dX11_isWhole_45 : decode cX11_isWhole 45 = .ok (.getfield 236, 3) := by decide +kernel
theorem dX11_isWhole_48 : decode cX11_isWhole 48 = .ok (.if_icmp .ge 7, 3) := by decide +kernel
theorem dX11_isWhole_51 : decode cX11_isWhole 51 = .ok (.iconst 1, 1) := by decide +kernel
theorem dX11_isWhole_52 : decode cX11_isWhole 52 = .ok (.goto 4, 3) := by decide +kernel
theorem dX11_isWhole_55 : decode cX11_isWhole 55 = .ok (.iconst 0, 1) := by decide +kernel
theorem dX11_isWhole_56 : decode cX11_isWhole 56 = .ok (.istore_n 1, 1) := by decide +kernel
theorem dX11_isWhole_57 : decode cX11_isWhole 57 = .ok (.iinc 2 1, 3) := by decide +kernel
theorem dX11_isWhole_60 : decode cX11_isWhole 60 = .ok (.goto (-38), 3) := by decide +kernel
theorem dX11_isWhole_63 : decode cX11_isWhole 63 = .ok (.iload_n 1, 1) := by decide +kernel
theorem dX11_isWhole_64 : decode cX11_isWhole 64 = .ok (.ireturn, 1) := by decide +kernel
theorem dX11_readYard_0 : decode cX11_readYard 0 = .ok (.aload_n 0, 1) := by decide +kernel
theorem dX11_readYard_1 : decode cX11_readYard 1 = .ok (.iconst 0, 1) := by decide +kernel
theorem dX11_readYard_2 : decode cX11_readYard 2 = .ok (.putfield 103, 3) := by decide +kernel
theorem dX11_readYard_5 : decode cX11_readYard 5 = .ok (.aload_n 0, 1) := by decide +kernel
theorem dX11_readYard_6 : decode cX11_readYard 6 = .ok (.iconst (-1), 1) := by decide +kernel
theorem dX11_readYard_7 : decode cX11_readYard 7 = .ok (.putfield 110, 3) := by decide +kernel
theorem dX11_readYard_10 : decode cX11_readYard 10 = .ok (.aload_n 0, 1) := by decide +kernel
theorem dX11_readYard_11 : decode cX11_readYard 11 = .ok (.iconst 0, 1) := by decide +kernel
theorem dX11_readYard_12 : decode cX11_readYard 12 = .ok (.putfield 236, 3) := by decide +kernel
theorem dX11_readYard_15 : decode cX11_readYard 15 = .ok (.aload_n 0, 1) := by decide +kernel
theorem dX11_readYard_16 : decode cX11_readYard 16 = .ok (.iconst 0, 1) := by decide +kernel
theorem dX11_readYard_17 : decode cX11_readYard 17 = .ok (.putfield 239, 3) := by decide +kernel
theorem dX11_readYard_20 : decode cX11_readYard 20 = .ok (.aload_n 0, 1) := by decide +kernel
theorem dX11_readYard_21 : decode cX11_readYard 21 = .ok (.iconst 0, 1) := by decide +kernel
theorem dX11_readYard_22 : decode cX11_readYard 22 = .ok (.putfield 242, 3) := by decide +kernel
theorem dX11_readYard_25 : decode cX11_readYard 25 = .ok (.iconst 0, 1) := by decide +kernel
theorem dX11_readYard_26 : decode cX11_readYard 26 = .ok (.istore_n 1, 1) := by decide +kernel
theorem dX11_readYard_27 : decode cX11_readYard 27 = .ok (.iconst 0, 1) := by decide +kernel
theorem dX11_readYard_28 : decode cX11_readYard 28 = .ok (.istore_n 2, 1) := by decide +kernel
theorem dX11_readYard_29 : decode cX11_readYard 29 = .ok (.iload_n 2, 1) := by decide +kernel
theorem dX11_readYard_30 : decode cX11_readYard 30 = .ok (.iconst 3, 1) := by decide +kernel
theorem dX11_readYard_31 : decode cX11_readYard 31 = .ok (.if_icmp .ge 21, 3) := by decide +kernel
theorem dX11_readYard_34 : decode cX11_readYard 34 = .ok (.aload_n 0, 1) := by decide +kernel
theorem dX11_readYard_35 : decode cX11_readYard 35 = .ok (.getfield 40, 3) := by decide +kernel
theorem dX11_readYard_38 : decode cX11_readYard 38 = .ok (.iload_n 2, 1) := by decide +kernel
theorem dX11_readYard_39 : decode cX11_readYard 39 = .ok (.bipush 115, 2) := by decide +kernel
theorem dX11_readYard_41 : decode cX11_readYard 41 = .ok (.iload_n 2, 1) := by decide +kernel
theorem dX11_readYard_42 : decode cX11_readYard 42 = .ok (.invokestatic 212, 3) := by decide +kernel
theorem dX11_readYard_45 : decode cX11_readYard 45 = .ok (.iastore, 1) := by decide +kernel
theorem dX11_readYard_46 : decode cX11_readYard 46 = .ok (.iinc 2 1, 3) := by decide +kernel
theorem dX11_readYard_49 : decode cX11_readYard 49 = .ok (.goto (-20), 3) := by decide +kernel
theorem dX11_readYard_52 : decode cX11_readYard 52 = .ok (.iconst 1, 1) := by decide +kernel
theorem dX11_readYard_53 : decode cX11_readYard 53 = .ok (.istore_n 2, 1) := by decide +kernel
theorem dX11_readYard_54 : decode cX11_readYard 54 = .ok (.iload_n 2, 1) := by decide +kernel
theorem dX11_readYard_55 : decode cX11_readYard 55 = .ok (.ifCond .eq 154, 3) := by decide +kernel
theorem dX11_readYard_58 : decode cX11_readYard 58 = .ok (.aload_n 0, 1) := by decide +kernel
theorem dX11_readYard_59 : decode cX11_readYard 59 = .ok (.getfield 110, 3) := by decide +kernel
theorem dX11_readYard_62 : decode cX11_readYard 62 = .ok (.iconst (-1), 1) := by decide +kernel
theorem dX11_readYard_63 : decode cX11_readYard 63 = .ok (.if_icmp .ne 146, 3) := by decide +kernel
theorem dX11_readYard_66 : decode cX11_readYard 66 = .ok (.aload_n 0, 1) := by decide +kernel
theorem dX11_readYard_67 : decode cX11_readYard 67 = .ok (.invokevirtual 122, 3) := by decide +kernel
theorem dX11_readYard_70 : decode cX11_readYard 70 = .ok (.istore_n 3, 1) := by decide +kernel
theorem dX11_readYard_71 : decode cX11_readYard 71 = .ok (.iload_n 3, 1) := by decide +kernel
theorem dX11_readYard_72 : decode cX11_readYard 72 = .ok (.bipush 115, 2) := by decide +kernel
theorem dX11_readYard_74 : decode cX11_readYard 74 = .ok (.if_icmp .ne 7, 3) := by decide +kernel
theorem dX11_readYard_77 : decode cX11_readYard 77 = .ok (.iload_n 1, 1) := by decide +kernel
theorem dX11_readYard_78 : decode cX11_readYard 78 = .ok (.ifCond .eq 47, 3) := by decide +kernel
theorem dX11_readYard_81 : decode cX11_readYard 81 = .ok (.iload_n 3, 1) := by decide +kernel
theorem dX11_readYard_82 : decode cX11_readYard 82 = .ok (.bipush 98, 2) := by decide +kernel
theorem dX11_readYard_84 : decode cX11_readYard 84 = .ok (.if_icmp .ne 11, 3) := by decide +kernel
theorem dX11_readYard_87 : decode cX11_readYard 87 = .ok (.aload_n 0, 1) := by decide +kernel
theorem dX11_readYard_88 : decode cX11_readYard 88 = .ok (.getfield 236, 3) := by decide +kernel
theorem dX11_readYard_91 : decode cX11_readYard 91 = .ok (.iconst 5, 1) := by decide +kernel
theorem dX11_readYard_92 : decode cX11_readYard 92 = .ok (.if_icmp .lt 33, 3) := by decide +kernel
theorem dX11_readYard_95 : decode cX11_readYard 95 = .ok (.iload_n 3, 1) := by decide +kernel
theorem dX11_readYard_96 : decode cX11_readYard 96 = .ok (.bipush 109, 2) := by decide +kernel
theorem dX11_readYard_98 : decode cX11_readYard 98 = .ok (.if_icmp .ne 12, 3) := by decide +kernel
theorem dX11_readYard_101 : decode cX11_readYard 101 = .ok (.aload_n 0, 1) := by decide +kernel
theorem dX11_readYard_102 : decode cX11_readYard 102 = .ok (.getfield 239, 3) := by decide +kernel
theorem dX11_readYard_105 : decode cX11_readYard 105 = .ok (.bipush 6, 2) := by decide +kernel
theorem dX11_readYard_107 : decode cX11_readYard 107 = .ok (.if_icmp .lt 18, 3) := by decide +kernel
theorem dX11_readYard_110 : decode cX11_readYard 110 = .ok (.iload_n 3, 1) := by decide +kernel
theorem dX11_readYard_111 : decode cX11_readYard 111 = .ok (.bipush 102, 2) := by decide +kernel
theorem dX11_readYard_113 : decode cX11_readYard 113 = .ok (.if_icmp .ne 16, 3) := by decide +kernel
theorem dX11_readYard_116 : decode cX11_readYard 116 = .ok (.aload_n 0, 1) := by decide +kernel
theorem dX11_readYard_117 : decode cX11_readYard 117 = .ok (.getfield 242, 3) := by decide +kernel
theorem dX11_readYard_120 : decode cX11_readYard 120 = .ok (.bipush 6, 2) := by decide +kernel
theorem dX11_readYard_122 : decode cX11_readYard 122 = .ok (.if_icmp .ge 7, 3) := by decide +kernel
theorem dX11_readYard_125 : decode cX11_readYard 125 = .ok (.iconst 1, 1) := by decide +kernel
theorem dX11_readYard_126 : decode cX11_readYard 126 = .ok (.goto 4, 3) := by decide +kernel
theorem dX11_readYard_129 : decode cX11_readYard 129 = .ok (.iconst 0, 1) := by decide +kernel
theorem dX11_readYard_130 : decode cX11_readYard 130 = .ok (.istore 4, 2) := by decide +kernel
theorem dX11_readYard_132 : decode cX11_readYard 132 = .ok (.iload 4, 2) := by decide +kernel
theorem dX11_readYard_134 : decode cX11_readYard 134 = .ok (.ifCond .eq 27, 3) := by decide +kernel
theorem dX11_readYard_137 : decode cX11_readYard 137 = .ok (.iload_n 1, 1) := by decide +kernel
theorem dX11_readYard_138 : decode cX11_readYard 138 = .ok (.ifCond .ne 9, 3) := by decide +kernel
theorem dX11_readYard_141 : decode cX11_readYard 141 = .ok (.iload_n 3, 1) := by decide +kernel
theorem dX11_readYard_142 : decode cX11_readYard 142 = .ok (.bipush 115, 2) := by decide +kernel
theorem dX11_readYard_144 : decode cX11_readYard 144 = .ok (.if_icmp .ne 7, 3) := by decide +kernel
theorem dX11_readYard_147 : decode cX11_readYard 147 = .ok (.iconst 1, 1) := by decide +kernel
theorem dX11_readYard_148 : decode cX11_readYard 148 = .ok (.goto 4, 3) := by decide +kernel
theorem dX11_readYard_151 : decode cX11_readYard 151 = .ok (.iconst 0, 1) := by decide +kernel
theorem dX11_readYard_152 : decode cX11_readYard 152 = .ok (.istore_n 1, 1) := by decide +kernel
theorem dX11_readYard_153 : decode cX11_readYard 153 = .ok (.aload_n 0, 1) := by decide +kernel
theorem dX11_readYard_154 : decode cX11_readYard 154 = .ok (.iload_n 3, 1) := by decide +kernel
theorem dX11_readYard_155 : decode cX11_readYard 155 = .ok (.invokevirtual 245, 3) := by decide +kernel
theorem dX11_readYard_158 : decode cX11_readYard 158 = .ok (.goto 7, 3) := by decide +kernel
theorem dX11_readYard_161 : decode cX11_readYard 161 = .ok (.aload_n 0, 1) := by decide +kernel
theorem dX11_readYard_162 : decode cX11_readYard 162 = .ok (.invokevirtual 119, 3) := by decide +kernel
theorem dX11_readYard_165 : decode cX11_readYard 165 = .ok (.aload_n 0, 1) := by decide +kernel
theorem dX11_readYard_166 : decode cX11_readYard 166 = .ok (.getfield 110, 3) := by decide +kernel
theorem dX11_readYard_169 : decode cX11_readYard 169 = .ok (.iconst (-1), 1) := by decide +kernel
theorem dX11_readYard_170 : decode cX11_readYard 170 = .ok (.if_icmp .ne 16, 3) := by decide +kernel
theorem dX11_readYard_173 : decode cX11_readYard 173 = .ok (.aload_n 0, 1) := by decide +kernel
theorem dX11_readYard_174 : decode cX11_readYard 174 = .ok (.invokevirtual 122, 3) := by decide +kernel
theorem dX11_readYard_177 : decode cX11_readYard 177 = .ok (.bipush 59, 2) := by decide +kernel
theorem dX11_readYard_179 : decode cX11_readYard 179 = .ok (.if_icmp .ne 7, 3) := by decide +kernel
theorem dX11_readYard_182 : decode cX11_readYard 182 = .ok (.iconst 1, 1) := by decide +kernel
theorem dX11_readYard_183 : decode cX11_readYard 183 = .ok (.goto 4, 3) := by decide +kernel
theorem dX11_readYard_186 : decode cX11_readYard 186 = .ok (.iconst 0, 1) := by decide +kernel
theorem dX11_readYard_187 : decode cX11_readYard 187 = .ok (.istore_n 2, 1) := by decide +kernel
theorem dX11_readYard_188 : decode cX11_readYard 188 = .ok (.aload_n 0, 1) := by decide +kernel
theorem dX11_readYard_189 : decode cX11_readYard 189 = .ok (.dup, 1) := by decide +kernel
theorem dX11_readYard_190 : decode cX11_readYard 190 = .ok (.getfield 103, 3) := by decide +kernel
theorem dX11_readYard_193 : decode cX11_readYard 193 = .ok (.iload_n 2, 1) := by decide +kernel
theorem dX11_readYard_194 : decode cX11_readYard 194 = .ok (.ifCond .eq 7, 3) := by decide +kernel
theorem dX11_readYard_197 : decode cX11_readYard 197 = .ok (.iconst 1, 1) := by decide +kernel
theorem dX11_readYard_198 : decode cX11_readYard 198 = .ok (.goto 4, 3) := by decide +kernel
theorem dX11_readYard_201 : decode cX11_readYard 201 = .ok (.iconst 0, 1) := by decide +kernel
theorem dX11_readYard_202 : decode cX11_readYard 202 = .ok (.iadd, 1) := by decide +kernel
theorem dX11_readYard_203 : decode cX11_readYard 203 = .ok (.putfield 103, 3) := by decide +kernel
theorem dX11_readYard_206 : decode cX11_readYard 206 = .ok (.goto (-152), 3) := by decide +kernel
theorem dX11_readYard_209 : decode cX11_readYard 209 = .ok (.aload_n 0, 1) := by decide +kernel
theorem dX11_readYard_210 : decode cX11_readYard 210 = .ok (.getfield 110, 3) := by decide +kernel
theorem dX11_readYard_213 : decode cX11_readYard 213 = .ok (.iconst (-1), 1) := by decide +kernel
theorem dX11_readYard_214 : decode cX11_readYard 214 = .ok (.if_icmp .ne 22, 3) := by decide +kernel
theorem dX11_readYard_217 : decode cX11_readYard 217 = .ok (.aload_n 0, 1) := by decide +kernel
theorem dX11_readYard_218 : decode cX11_readYard 218 = .ok (.invokevirtual 122, 3) := by decide +kernel
theorem dX11_readYard_221 : decode cX11_readYard 221 = .ok (.iconst (-1), 1) := by decide +kernel
theorem dX11_readYard_222 : decode cX11_readYard 222 = .ok (.if_icmp .ne 10, 3) := by decide +kernel
theorem dX11_readYard_225 : decode cX11_readYard 225 = .ok (.aload_n 0, 1) := by decide +kernel
theorem dX11_readYard_226 : decode cX11_readYard 226 = .ok (.invokevirtual 248, 3) := by decide +kernel
theorem dX11_readYard_229 : decode cX11_readYard 229 = .ok (.ifCond .ne 7, 3) := by decide +kernel
theorem dX11_readYard_232 : decode cX11_readYard 232 = .ok (.aload_n 0, 1) := by decide +kernel
theorem dX11_readYard_233 : decode cX11_readYard 233 = .ok (.invokevirtual 119, 3) := by decide +kernel
theorem dX11_readYard_236 : decode cX11_readYard 236 = .ok (.aload_n 0, 1) := by decide +kernel
theorem dX11_readYard_237 : decode cX11_readYard 237 = .ok (.getfield 110, 3) := by decide +kernel
theorem dX11_readYard_240 : decode cX11_readYard 240 = .ok (.ireturn, 1) := by decide +kernel
theorem dX11_fault_0 : decode cX11_fault 0 = .ok (.iload_n 1, 1) := by decide +kernel
theorem dX11_fault_1 : decode cX11_fault 1 = .ok (.ifCond .ne 10, 3) := by decide +kernel
theorem dX11_fault_4 : decode cX11_fault 4 = .ok (.aload_n 0, 1) := by decide +kernel
theorem dX11_fault_5 : decode cX11_fault 5 = .ok (.invokevirtual 252, 3) := by decide +kernel
theorem dX11_fault_8 : decode cX11_fault 8 = .ok (.goto 18, 3) := by decide +kernel
theorem dX11_fault_11 : decode cX11_fault 11 = .ok (.iload_n 1, 1) := by decide +kernel
theorem dX11_fault_12 : decode cX11_fault 12 = .ok (.iconst 1, 1) := by decide +kernel
theorem dX11_fault_13 : decode cX11_fault 13 = .ok (.if_icmp .ne 11, 3) := by decide +kernel
theorem dX11_fault_16 : decode cX11_fault 16 = .ok (.aload_n 0, 1) := by decide +kernel
theorem dX11_fault_17 : decode cX11_fault 17 = .ok (.iconst 4, 1) := by decide +kernel
theorem dX11_fault_18 : decode cX11_fault 18 = .ok (.invokevirtual 255, 3) := by decide +kernel
theorem dX11_fault_21 : decode cX11_fault 21 = .ok (.goto 5, 3) := by decide +kernel
theorem dX11_fault_24 : decode cX11_fault 24 = .ok (.bipush (-2), 2) := by decide +kernel
theorem dX11_fault_26 : decode cX11_fault 26 = .ok (.ireturn, 1) := by decide +kernel
theorem dX11_takeYard_0 : decode cX11_takeYard 0 = .ok (.aload_n 0, 1) := by decide +kernel
theorem dX11_takeYard_1 : decode cX11_takeYard 1 = .ok (.aload_n 0, 1) := by decide +kernel
theorem dX11_takeYard_2 : decode cX11_takeYard 2 = .ok (.getfield 236, 3) := by decide +kernel
theorem dX11_takeYard_5 : decode cX11_takeYard 5 = .ok (.putfield 258, 3) := by decide +kernel
theorem dX11_takeYard_8 : decode cX11_takeYard 8 = .ok (.aload_n 0, 1) := by decide +kernel
theorem dX11_takeYard_9 : decode cX11_takeYard 9 = .ok (.aload_n 0, 1) := by decide +kernel
theorem dX11_takeYard_10 : decode cX11_takeYard 10 = .ok (.getfield 239, 3) := by decide +kernel
theorem dX11_takeYard_13 : decode cX11_takeYard 13 = .ok (.putfield 261, 3) := by decide +kernel
theorem dX11_takeYard_16 : decode cX11_takeYard 16 = .ok (.aload_n 0, 1) := by decide +kernel
theorem dX11_takeYard_17 : decode cX11_takeYard 17 = .ok (.aload_n 0, 1) := by decide +kernel
theorem dX11_takeYard_18 : decode cX11_takeYard 18 = .ok (.getfield 242, 3) := by decide +kernel
theorem dX11_takeYard_21 : decode cX11_takeYard 21 = .ok (.putfield 264, 3) := by decide +kernel
theorem dX11_takeYard_24 : decode cX11_takeYard 24 = .ok (.iconst 0, 1) := by decide +kernel
theorem dX11_takeYard_25 : decode cX11_takeYard 25 = .ok (.istore_n 1, 1) := by decide +kernel
theorem dX11_takeYard_26 : decode cX11_takeYard 26 = .ok (.iload_n 1, 1) := by decide +kernel
theorem dX11_takeYard_27 : decode cX11_takeYard 27 = .ok (.iconst 3, 1) := by decide +kernel
theorem dX11_takeYard_28 : decode cX11_takeYard 28 = .ok (.if_icmp .ge 21, 3) := by decide +kernel
theorem dX11_takeYard_31 : decode cX11_takeYard 31 = .ok (.aload_n 0, 1) := by decide +kernel
theorem dX11_takeYard_32 : decode cX11_takeYard 32 = .ok (.getfield 52, 3) := by decide +kernel
theorem dX11_takeYard_35 : decode cX11_takeYard 35 = .ok (.iload_n 1, 1) := by decide +kernel
theorem dX11_takeYard_36 : decode cX11_takeYard 36 = .ok (.aload_n 0, 1) := by decide +kernel
theorem dX11_takeYard_37 : decode cX11_takeYard 37 = .ok (.getfield 40, 3) := by decide +kernel
theorem dX11_takeYard_40 : decode cX11_takeYard 40 = .ok (.iload_n 1, 1) := by decide +kernel
theorem dX11_takeYard_41 : decode cX11_takeYard 41 = .ok (.iaload, 1) := by decide +kernel
theorem dX11_takeYard_42 : decode cX11_takeYard 42 = .ok (.iastore, 1) := by decide +kernel
theorem dX11_takeYard_43 : decode cX11_takeYard 43 = .ok (.iinc 1 1, 3) := by decide +kernel
theorem dX11_takeYard_46 : decode cX11_takeYard 46 = .ok (.goto (-20), 3) := by decide +kernel
theorem dX11_takeYard_49 : decode cX11_takeYard 49 = .ok (.iconst 0, 1) := by decide +kernel
theorem dX11_takeYard_50 : decode cX11_takeYard 50 = .ok (.istore_n 1, 1) := by decide +kernel
theorem dX11_takeYard_51 : decode cX11_takeYard 51 = .ok (.iload_n 1, 1) := by decide +kernel
theorem dX11_takeYard_52 : decode cX11_takeYard 52 = .ok (.bipush 10, 2) := by decide +kernel
theorem dX11_takeYard_54 : decode cX11_takeYard 54 = .ok (.if_icmp .ge 21, 3) := by decide +kernel
theorem dX11_takeYard_57 : decode cX11_takeYard 57 = .ok (.aload_n 0, 1) := by decide +kernel
theorem dX11_takeYard_58 : decode cX11_takeYard 58 = .ok (.getfield 55, 3) := by decide +kernel
theorem dX11_takeYard_61 : decode cX11_takeYard 61 = .ok (.iload_n 1, 1) := by decide +kernel
theorem dX11_takeYard_62 : decode cX11_takeYard 62 = .ok (.aload_n 0, 1) := by decide +kernel
theorem dX11_takeYard_63 : decode cX11_takeYard 63 = .ok (.getfield 43, 3) := by decide +kernel
theorem dX11_takeYard_66 : decode cX11_takeYard 66 = .ok (.iload_n 1, 1) := by decide +kernel
theorem dX11_takeYard_67 : decode cX11_takeYard 67 = .ok (.iaload, 1) := by decide +kernel
theorem dX11_takeYard_68 : decode cX11_takeYard 68 = .ok (.iastore, 1) := by decide +kernel
theorem dX11_takeYard_69 : decode cX11_takeYard 69 = .ok (.iinc 1 1, 3) := by decide +kernel
theorem dX11_takeYard_72 : decode cX11_takeYard 72 = .ok (.goto (-21), 3) := by decide +kernel
theorem dX11_takeYard_75 : decode cX11_takeYard 75 = .ok (.iconst 0, 1) := by decide +kernel
theorem dX11_takeYard_76 : decode cX11_takeYard 76 = .ok (.istore_n 1, 1) := by decide +kernel
theorem dX11_takeYard_77 : decode cX11_takeYard 77 = .ok (.iload_n 1, 1) := by decide +kernel
theorem dX11_takeYard_78 : decode cX11_takeYard 78 = .ok (.bipush 18, 2) := by decide +kernel
theorem dX11_takeYard_80 : decode cX11_takeYard 80 = .ok (.if_icmp .ge 33, 3) := by decide +kernel
theorem dX11_takeYard_83 : decode cX11_takeYard 83 = .ok (.aload_n 0, 1) := by decide +kernel
theorem dX11_takeYard_84 : decode cX11_takeYard 84 = .ok (.getfield 58, 3) := by decide +kernel
theorem dX11_takeYard_87 : decode cX11_takeYard 87 = .ok (.iload_n 1, 1) := by decide +kernel
theorem dX11_takeYard_88 : decode cX11_takeYard 88 = .ok (.aload_n 0, 1) := by decide +kernel
theorem dX11_takeYard_89 : decode cX11_takeYard 89 = .ok (.getfield 46, 3) := by decide +kernel
theorem dX11_takeYard_92 : decode cX11_takeYard 92 = .ok (.iload_n 1, 1) := by decide +kernel
theorem dX11_takeYard_93 : decode cX11_takeYard 93 = .ok (.iaload, 1) := by decide +kernel
theorem dX11_takeYard_94 : decode cX11_takeYard 94 = .ok (.iastore, 1) := by decide +kernel
theorem dX11_takeYard_95 : decode cX11_takeYard 95 = .ok (.aload_n 0, 1) := by decide +kernel
theorem dX11_takeYard_96 : decode cX11_takeYard 96 = .ok (.getfield 61, 3) := by decide +kernel
theorem dX11_takeYard_99 : decode cX11_takeYard 99 = .ok (.iload_n 1, 1) := by decide +kernel
theorem dX11_takeYard_100 : decode cX11_takeYard 100 = .ok (.aload_n 0, 1) := by decide +kernel
theorem dX11_takeYard_101 : decode cX11_takeYard 101 = .ok (.getfield 49, 3) := by decide +kernel
theorem dX11_takeYard_104 : decode cX11_takeYard 104 = .ok (.iload_n 1, 1) := by decide +kernel
theorem dX11_takeYard_105 : decode cX11_takeYard 105 = .ok (.iaload, 1) := by decide +kernel
theorem dX11_takeYard_106 : decode cX11_takeYard 106 = .ok (.iastore, 1) := by decide +kernel
theorem dX11_takeYard_107 : decode cX11_takeYard 107 = .ok (.iinc 1 1, 3) := by decide +kernel
theorem dX11_takeYard_110 : decode cX11_takeYard 110 = .ok (.goto (-33), 3) := by decide +kernel
theorem dX11_takeYard_113 : decode cX11_takeYard 113 = .ok (.iconst 0, 1) := by decide +kernel
theorem dX11_takeYard_114 : decode cX11_takeYard 114 = .ok (.istore_n 1, 1) := by decide +kernel
theorem dX11_takeYard_115 : decode cX11_takeYard 115 = .ok (.iload_n 1, 1) := by decide +kernel
theorem dX11_takeYard_116 : decode cX11_takeYard 116 = .ok (.sipush 131, 3) := by decide +kernel
theorem dX11_takeYard_119 : decode cX11_takeYard 119 = .ok (.if_icmp .ge 16, 3) := by decide +kernel
theorem dX11_takeYard_122 : decode cX11_takeYard 122 = .ok (.aload_n 0, 1) := by decide +kernel
theorem dX11_takeYard_123 : decode cX11_takeYard 123 = .ok (.getfield 64, 3) := by decide +kernel
theorem dX11_takeYard_126 : decode cX11_takeYard 126 = .ok (.iload_n 1, 1) := by decide +kernel
theorem dX11_takeYard_127 : decode cX11_takeYard 127 = .ok (.iconst 0, 1) := by decide +kernel
theorem dX11_takeYard_128 : decode cX11_takeYard 128 = .ok (.iastore, 1) := by decide +kernel
theorem dX11_takeYard_129 : decode cX11_takeYard 129 = .ok (.iinc 1 1, 3) := by decide +kernel
theorem dX11_takeYard_132 : decode cX11_takeYard 132 = .ok (.goto (-17), 3) := by decide +kernel
theorem dX11_takeYard_135 : decode cX11_takeYard 135 = .ok (.iconst 0, 1) := by decide +kernel
theorem dX11_takeYard_136 : decode cX11_takeYard 136 = .ok (.istore_n 1, 1) := by decide +kernel
theorem dX11_takeYard_137 : decode cX11_takeYard 137 = .ok (.iload_n 1, 1) := by decide +kernel
theorem dX11_takeYard_138 : decode cX11_takeYard 138 = .ok (.aload_n 0, 1) := by decide +kernel
theorem dX11_takeYard_139 : decode cX11_takeYard 139 = .ok (.getfield 261, 3) := by decide +kernel
theorem dX11_takeYard_142 : decode cX11_takeYard 142 = .ok (.if_icmp .ge 23, 3) := by decide +kernel
theorem dX11_takeYard_145 : decode cX11_takeYard 145 = .ok (.aload_n 0, 1) := by decide +kernel
theorem dX11_takeYard_146 : decode cX11_takeYard 146 = .ok (.getfield 64, 3) := by decide +kernel
theorem dX11_takeYard_149 : decode cX11_takeYard 149 = .ok (.iconst 0, 1) := by decide +kernel
theorem dX11_takeYard_150 : decode cX11_takeYard 150 = .ok (.iload_n 1, 1) := by decide +kernel
theorem dX11_takeYard_151 : decode cX11_takeYard 151 = .ok (.iadd, 1) := by decide +kernel
theorem dX11_takeYard_152 : decode cX11_takeYard 152 = .ok (.aload_n 0, 1) := by decide +kernel
theorem dX11_takeYard_153 : decode cX11_takeYard 153 = .ok (.iload_n 1, 1) := by decide +kernel
theorem dX11_takeYard_154 : decode cX11_takeYard 154 = .ok (.iconst 0, 1) := by decide +kernel
theorem dX11_takeYard_155 : decode cX11_takeYard 155 = .ok (.invokevirtual 267, 3) := by decide +kernel
theorem dX11_takeYard_158 : decode cX11_takeYard 158 = .ok (.iastore, 1) := by decide +kernel
theorem dX11_takeYard_159 : decode cX11_takeYard 159 = .ok (.iinc 1 1, 3) := by decide +kernel
theorem dX11_takeYard_162 : decode cX11_takeYard 162 = .ok (.goto (-25), 3) := by decide +kernel
theorem dX11_takeYard_165 : decode cX11_takeYard 165 = .ok (.aload_n 0, 1) := by decide +kernel
theorem dX11_takeYard_166 : decode cX11_takeYard 166 = .ok (.getfield 64, 3) := by decide +kernel
theorem dX11_takeYard_169 : decode cX11_takeYard 169 = .ok (.bipush 8, 2) := by decide +kernel
theorem dX11_takeYard_171 : decode cX11_takeYard 171 = .ok (.aload_n 0, 1) := by decide +kernel
theorem dX11_takeYard_172 : decode cX11_takeYard 172 = .ok (.getfield 52, 3) := by decide +kernel
theorem dX11_takeYard_175 : decode cX11_takeYard 175 = .ok (.iconst 2, 1) := by decide +kernel
theorem dX11_takeYard_176 : decode cX11_takeYard 176 = .ok (.iaload, 1) := by decide +kernel
theorem dX11_takeYard_177 : decode cX11_takeYard 177 = .ok (.iastore, 1) := by decide +kernel
theorem dX11_takeYard_178 : decode cX11_takeYard 178 = .ok (.aload_n 0, 1) := by decide +kernel
theorem dX11_takeYard_179 : decode cX11_takeYard 179 = .ok (.iconst 0, 1) := by decide +kernel
theorem dX11_takeYard_180 : decode cX11_takeYard 180 = .ok (.putfield 270, 3) := by decide +kernel
theorem dX11_takeYard_183 : decode cX11_takeYard 183 = .ok (.aload_n 0, 1) := by decide +kernel
theorem dX11_takeYard_184 : decode cX11_takeYard 184 = .ok (.iconst 0, 1) := by decide +kernel
theorem dX11_takeYard_185 : decode cX11_takeYard 185 = .ok (.putfield 273, 3) := by decide +kernel
theorem dX11_takeYard_188 : decode cX11_takeYard 188 = .ok (.aload_n 0, 1) := by decide +kernel
theorem dX11_takeYard_189 : decode cX11_takeYard 189 = .ok (.iconst 0, 1) := by decide +kernel
theorem dX11_takeYard_190 : decode cX11_takeYard 190 = .ok (.putfield 276, 3) := by decide +kernel
theorem dX11_takeYard_193 : decode cX11_takeYard 193 = .ok (.aload_n 0, 1) := by decide +kernel
theorem dX11_takeYard_194 : decode cX11_takeYard 194 = .ok (.getfield 261, 3) := by decide +kernel
theorem dX11_takeYard_197 : decode cX11_takeYard 197 = .ok (.ireturn, 1) := by decide +kernel
theorem dX11_text_0 : decode cX11_text 0 = .ok (.iload_n 1, 1) := by decide +kernel
theorem dX11_text_1 : decode cX11_text 1 = .ok (.ifCond .ne 21, 3) := by decide +kernel
theorem dX11_text_4 : decode cX11_text 4 = .ok (.aload_n 0, 1) := by decide +kernel
theorem dX11_text_5 : decode cX11_text 5 = .ok (.invokevirtual 252, 3) := by decide +kernel
theorem dX11_text_8 : decode cX11_text 8 = .ok (.iconst (-1), 1) := by decide +kernel
theorem dX11_text_9 : decode cX11_text 9 = .ok (.if_icmp .ne 13, 3) := by decide +kernel
theorem dX11_text_12 : decode cX11_text 12 = .ok (.aload_n 0, 1) := by decide +kernel
theorem dX11_text_13 : decode cX11_text 13 = .ok (.iconst 0, 1) := by decide +kernel
theorem dX11_text_14 : decode cX11_text 14 = .ok (.putfield 100, 3) := by decide +kernel
theorem dX11_text_17 : decode cX11_text 17 = .ok (.aload_n 0, 1) := by decide +kernel
theorem dX11_text_18 : decode cX11_text 18 = .ok (.invokevirtual 280, 3) := by decide +kernel
theorem dX11_text_21 : decode cX11_text 21 = .ok (.ireturn, 1) := by decide +kernel
theorem dX11_text_22 : decode cX11_text 22 = .ok (.iload_n 1, 1) := by decide +kernel
theorem dX11_text_23 : decode cX11_text 23 = .ok (.iconst 1, 1) := by decide +kernel
theorem dX11_text_24 : decode cX11_text 24 = .ok (.if_icmp .ne 45, 3) := by decide +kernel
theorem dX11_text_27 : decode cX11_text 27 = .ok (.aload_n 0, 1) := by decide +kernel
theorem dX11_text_28 : decode cX11_text 28 = .ok (.getfield 283, 3) := by decide +kernel
theorem dX11_text_31 : decode cX11_text 31 = .ok (.iconst 4, 1) := by decide +kernel
theorem dX11_text_32 : decode cX11_text 32 = .ok (.if_icmp .ge 37, 3) := by decide +kernel
theorem dX11_text_35 : decode cX11_text 35 = .ok (.aload_n 0, 1) := by decide +kernel
theorem dX11_text_36 : decode cX11_text 36 = .ok (.aload_n 0, 1) := by decide +kernel
theorem dX11_text_37 : decode cX11_text 37 = .ok (.getfield 283, 3) := by decide +kernel
theorem dX11_text_40 : decode cX11_text 40 = .ok (.invokevirtual 255, 3) := by decide +kernel
theorem dX11_text_43 : decode cX11_text 43 = .ok (.iconst (-1), 1) := by decide +kernel
theorem dX11_text_44 : decode cX11_text 44 = .ok (.if_icmp .ne 25, 3) := by decide +kernel
theorem dX11_text_47 : decode cX11_text 47 = .ok (.aload_n 0, 1) := by decide +kernel
theorem dX11_text_48 : decode cX11_text 48 = .ok (.iconst 0, 1) := by decide +kernel
theorem dX11_text_49 : decode cX11_text 49 = .ok (.putfield 100, 3) := by decide +kernel
theorem dX11_text_52 : decode cX11_text 52 = .ok (.aload_n 0, 1) := by decide +kernel
theorem dX11_text_53 : decode cX11_text 53 = .ok (.dup, 1) := by decide +kernel
theorem dX11_text_54 : decode cX11_text 54 = .ok (.getfield 283, 3) := by decide +kernel
theorem dX11_text_57 : decode cX11_text 57 = .ok (.iconst 1, 1) := by decide +kernel
theorem dX11_text_58 : decode cX11_text 58 = .ok (.iadd, 1) := by decide +kernel
theorem dX11_text_59 : decode cX11_text 59 = .ok (.putfield 283, 3) := by decide +kernel
theorem dX11_text_62 : decode cX11_text 62 = .ok (.aload_n 0, 1) := by decide +kernel
theorem dX11_text_63 : decode cX11_text 63 = .ok (.getfield 283, 3) := by decide +kernel
theorem dX11_text_66 : decode cX11_text 66 = .ok (.iconst 1, 1) := by decide +kernel
theorem dX11_text_67 : decode cX11_text 67 = .ok (.isub, 1) := by decide +kernel
theorem dX11_text_68 : decode cX11_text 68 = .ok (.ireturn, 1) := by decide +kernel
theorem dX11_text_69 : decode cX11_text 69 = .ok (.iconst (-1), 1) := by decide +kernel
theorem dX11_text_70 : decode cX11_text 70 = .ok (.ireturn, 1) := by decide +kernel
theorem dX11_of_0 : decode cX11_of 0 = .ok (.aload_n 0, 1) := by decide +kernel
theorem dX11_of_1 : decode cX11_of 1 = .ok (.getfield 58, 3) := by decide +kernel
theorem dX11_of_4 : decode cX11_of 4 = .ok (.iconst 3, 1) := by decide +kernel
theorem dX11_of_5 : decode cX11_of 5 = .ok (.iload_n 1, 1) := by decide +kernel
theorem dX11_of_6 : decode cX11_of 6 = .ok (.imul, 1) := by decide +kernel
theorem dX11_of_7 : decode cX11_of 7 = .ok (.iload_n 2, 1) := by decide +kernel
theorem dX11_of_8 : decode cX11_of 8 = .ok (.iadd, 1) := by decide +kernel
theorem dX11_of_9 : decode cX11_of 9 = .ok (.iaload, 1) := by decide +kernel
theorem dX11_of_10 : decode cX11_of 10 = .ok (.ireturn, 1) := by decide +kernel
theorem dX11_ofFarm_0 : decode cX11_ofFarm 0 = .ok (.aload_n 0, 1) := by decide +kernel
theorem dX11_ofFarm_1 : decode cX11_ofFarm 1 = .ok (.getfield 61, 3) := by decide +kernel
theorem dX11_ofFarm_4 : decode cX11_ofFarm 4 = .ok (.iconst 3, 1) := by decide +kernel
theorem dX11_ofFarm_5 : decode cX11_ofFarm 5 = .ok (.iload_n 1, 1) := by decide +kernel
theorem dX11_ofFarm_6 : decode cX11_ofFarm 6 = .ok (.imul, 1) := by decide +kernel
theorem dX11_ofFarm_7 : decode cX11_ofFarm 7 = .ok (.iload_n 2, 1) := by decide +kernel
theorem dX11_ofFarm_8 : decode cX11_ofFarm 8 = .ok (.iadd, 1) := by decide +kernel
theorem dX11_ofFarm_9 : decode cX11_ofFarm 9 = .ok (.iaload, 1) := by decide +kernel
theorem dX11_ofFarm_10 : decode cX11_ofFarm 10 = .ok (.ireturn, 1) := by decide +kernel
theorem dX11_isBoy_0 : decode cX11_isBoy 0 = .ok (.iload_n 1, 1) := by decide +kernel
theorem dX11_isBoy_1 : decode cX11_isBoy 1 = .ok (.iconst 0, 1) := by decide +kernel
theorem dX11_isBoy_2 : decode cX11_isBoy 2 = .ok (.aload_n 0, 1) := by decide +kernel
theorem dX11_isBoy_3 : decode cX11_isBoy 3 = .ok (.getfield 258, 3) := by decide +kernel
theorem dX11_isBoy_6 : decode cX11_isBoy 6 = .ok (.iconst 1, 1) := by decide +kernel
theorem dX11_isBoy_7 : decode cX11_isBoy 7 = .ok (.isub, 1) := by decide +kernel
theorem dX11_isBoy_8 : decode cX11_isBoy 8 = .ok (.invokestatic 208, 3) := by decide +kernel
theorem dX11_isBoy_11 : decode cX11_isBoy 11 = .ok (.ireturn, 1) := by decide +kernel
theorem dX11_isMarble_0 : decode cX11_isMarble 0 = .ok (.iload_n 1, 1) := by decide +kernel
theorem dX11_isMarble_1 : decode cX11_isMarble 1 = .ok (.iconst 0, 1) := by decide +kernel
theorem dX11_isMarble_2 : decode cX11_isMarble 2 = .ok (.aload_n 0, 1) := by decide +kernel
theorem dX11_isMarble_3 : decode cX11_isMarble 3 = .ok (.getfield 261, 3) := by decide +kernel
theorem dX11_isMarble_6 : decode cX11_isMarble 6 = .ok (.iconst 1, 1) := by decide +kernel
theorem dX11_isMarble_7 : decode cX11_isMarble 7 = .ok (.isub, 1) := by decide +kernel
theorem dX11_isMarble_8 : decode cX11_isMarble 8 = .ok (.invokestatic 208, 3) := by decide +kernel
theorem dX11_isMarble_11 : decode cX11_isMarble 11 = .ok (.ireturn, 1) := by decide +kernel
theorem dX11_isPlace_0 : decode cX11_isPlace 0 = .ok (.iload_n 0, 1) := by decide +kernel
theorem dX11_isPlace_1 : decode cX11_isPlace 1 = .ok (.iconst 0, 1) := by decide +kernel
theorem dX11_isPlace_2 : decode cX11_isPlace 2 = .ok (.bipush 9, 2) := by decide +kernel
theorem dX11_isPlace_4 : decode cX11_isPlace 4 = .ok (.invokestatic 208, 3) := by decide +kernel
theorem dX11_isPlace_7 : decode cX11_isPlace 7 = .ok (.ireturn, 1) := by decide +kernel
theorem dX11_isKind_0 : decode cX11_isKind 0 = .ok (.iload_n 0, 1) := by decide +kernel
theorem dX11_isKind_1 : decode cX11_isKind 1 = .ok (.iconst 0, 1) := by decide +kernel
theorem dX11_isKind_2 : decode cX11_isKind 2 = .ok (.iconst 5, 1) := by decide +kernel
theorem dX11_isKind_3 : decode cX11_isKind 3 = .ok (.invokestatic 208, 3) := by decide +kernel
theorem dX11_isKind_6 : decode cX11_isKind 6 = .ok (.ireturn, 1) := by decide +kernel
theorem dX11_isPower_0 : decode cX11_isPower 0 = .ok (.iload_n 0, 1) := by decide +kernel
theorem dX11_isPower_1 : decode cX11_isPower 1 = .ok (.iconst 1, 1) := by decide +kernel
theorem dX11_isPower_2 : decode cX11_isPower 2 = .ok (.bipush 9, 2) := by decide +kernel
theorem dX11_isPower_4 : decode cX11_isPower 4 = .ok (.invokestatic 208, 3) := by decide +kernel
theorem dX11_isPower_7 : decode cX11_isPower 7 = .ok (.ireturn, 1) := by decide +kernel
theorem dX11_handsOf_0 : decode cX11_handsOf 0 = .ok (.iconst 0, 1) := by decide +kernel
theorem dX11_handsOf_1 : decode cX11_handsOf 1 = .ok (.istore_n 2, 1) := by decide +kernel
theorem dX11_handsOf_2 : decode cX11_handsOf 2 = .ok (.iconst 0, 1) := by decide +kernel
theorem dX11_handsOf_3 : decode cX11_handsOf 3 = .ok (.istore_n 3, 1) := by decide +kernel
theorem dX11_handsOf_4 : decode cX11_handsOf 4 = .ok (.iload_n 3, 1) := by decide +kernel
theorem dX11_handsOf_5 : decode cX11_handsOf 5 = .ok (.aload_n 0, 1) := by decide +kernel
theorem dX11_handsOf_6 : decode cX11_handsOf 6 = .ok (.getfield 261, 3) := by decide +kernel
theorem dX11_handsOf_9 : decode cX11_handsOf 9 = .ok (.if_icmp .ge 31, 3) := by decide +kernel
theorem dX11_handsOf_12 : decode cX11_handsOf 12 = .ok (.iload_n 2, 1) := by decide +kernel
theorem dX11_handsOf_13 : decode cX11_handsOf 13 = .ok (.aload_n 0, 1) := by decide +kernel
theorem dX11_handsOf_14 : decode cX11_handsOf 14 = .ok (.getfield 64, 3) := by decide +kernel
theorem dX11_handsOf_17 : decode cX11_handsOf 17 = .ok (.iconst 0, 1) := by decide +kernel
theorem dX11_handsOf_18 : decode cX11_handsOf 18 = .ok (.iload_n 3, 1) := by decide +kernel
theorem dX11_handsOf_19 : decode cX11_handsOf 19 = .ok (.iadd, 1) := by decide +kernel
theorem dX11_handsOf_20 : decode cX11_handsOf 20 = .ok (.iaload, 1) := by decide +kernel
theorem dX11_handsOf_21 : decode cX11_handsOf 21 = .ok (.iload_n 1, 1) := by decide +kernel
theorem dX11_handsOf_22 : decode cX11_handsOf 22 = .ok (.if_icmp .ne 9, 3) := by decide +kernel
theorem dX11_handsOf_25 : decode cX11_handsOf 25 = .ok (.iconst 1, 1) := by decide +kernel
theorem dX11_handsOf_26 : decode cX11_handsOf 26 = .ok (.iload_n 3, 1) := by decide +kernel
theorem dX11_handsOf_27 : decode cX11_handsOf 27 = .ok (.ishl, 1) := by decide +kernel
theorem dX11_handsOf_28 : decode cX11_handsOf 28 = .ok (.goto 4, 3) := by decide +kernel
theorem dX11_handsOf_31 : decode cX11_handsOf 31 = .ok (.iconst 0, 1) := by decide +kernel
theorem dX11_handsOf_32 : decode cX11_handsOf 32 = .ok (.ior, 1) := by decide +kernel
theorem dX11_handsOf_33 : decode cX11_handsOf 33 = .ok (.istore_n 2, 1) := by decide +kernel
theorem dX11_handsOf_34 : decode cX11_handsOf 34 = .ok (.iinc 3 1, 3) := by decide +kernel
theorem dX11_handsOf_37 : decode cX11_handsOf 37 = .ok (.goto (-33), 3) := by decide +kernel
theorem dX11_handsOf_40 : decode cX11_handsOf 40 = .ok (.iload_n 2, 1) := by decide +kernel
theorem dX11_handsOf_41 : decode cX11_handsOf 41 = .ok (.ireturn, 1) := by decide +kernel
theorem dX11_isLoose_0 : decode cX11_isLoose 0 = .ok (.aload_n 0, 1) := by decide +kernel
theorem dX11_isLoose_1 : decode cX11_isLoose 1 = .ok (.getfield 64, 3) := by decide +kernel
theorem dX11_isLoose_4 : decode cX11_isLoose 4 = .ok (.iconst 0, 1) := by decide +kernel
theorem dX11_isLoose_5 : decode cX11_isLoose 5 = .ok (.iload_n 1, 1) := by decide +kernel
theorem dX11_isLoose_6 : decode cX11_isLoose 6 = .ok (.iadd, 1) := by decide +kernel
theorem dX11_isLoose_7 : decode cX11_isLoose 7 = .ok (.iaload, 1) := by decide +kernel
theorem dX11_isLoose_8 : decode cX11_isLoose 8 = .ok (.iconst (-1), 1) := by decide +kernel
theorem dX11_isLoose_9 : decode cX11_isLoose 9 = .ok (.if_icmp .eq 21, 3) := by decide +kernel
theorem dX11_isLoose_12 : decode cX11_isLoose 12 = .ok (.aload_n 0, 1) := by decide +kernel
theorem dX11_isLoose_13 : decode cX11_isLoose 13 = .ok (.getfield 64, 3) := by decide +kernel
theorem dX11_isLoose_16 : decode cX11_isLoose 16 = .ok (.bipush 7, 2) := by decide +kernel
theorem dX11_isLoose_18 : decode cX11_isLoose 18 = .ok (.iaload, 1) := by decide +kernel
theorem dX11_isLoose_19 : decode cX11_isLoose 19 = .ok (.iload_n 1, 1) := by decide +kernel
theorem dX11_isLoose_20 : decode cX11_isLoose 20 = .ok (.invokestatic 219, 3) := by decide +kernel
theorem dX11_isLoose_23 : decode cX11_isLoose 23 = .ok (.ifCond .ne 7, 3) := by decide +kernel
theorem dX11_isLoose_26 : decode cX11_isLoose 26 = .ok (.iconst 1, 1) := by decide +kernel
theorem dX11_isLoose_27 : decode cX11_isLoose 27 = .ok (.goto 4, 3) := by decide +kernel
theorem dX11_isLoose_30 : decode cX11_isLoose 30 = .ok (.iconst 0, 1) := by decide +kernel
theorem dX11_isLoose_31 : decode cX11_isLoose 31 = .ok (.ireturn, 1) := by decide +kernel
theorem dX11_landsAt_0 : decode cX11_landsAt 0 = .ok (.iconst 2, 1) := by decide +kernel
theorem dX11_landsAt_1 : decode cX11_landsAt 1 = .ok (.iload_n 3, 1) := by decide +kernel
theorem dX11_landsAt_2 : decode cX11_landsAt 2 = .ok (.imul, 1) := by decide +kernel
theorem dX11_landsAt_3 : decode cX11_landsAt 3 = .ok (.aload_n 0, 1) := by decide +kernel
theorem dX11_landsAt_4 : decode cX11_landsAt 4 = .ok (.getfield 55, 3) := by decide +kernel
theorem dX11_landsAt_7 : decode cX11_landsAt 7 = .ok (.iconst 2, 1) := by decide +kernel
theorem dX11_landsAt_8 : decode cX11_landsAt 8 = .ok (.iload_n 1, 1) := by decide +kernel
theorem dX11_landsAt_9 : decode cX11_landsAt 9 = .ok (.imul, 1) := by decide +kernel
theorem dX11_landsAt_10 : decode cX11_landsAt 10 = .ok (.iconst 0, 1) := by decide +kernel
theorem dX11_landsAt_11 : decode cX11_landsAt 11 = .ok (.iadd, 1) := by decide +kernel
theorem dX11_landsAt_12 : decode cX11_landsAt 12 = .ok (.iaload, 1) := by decide +kernel
theorem dX11_landsAt_13 : decode cX11_landsAt 13 = .ok (.iconst 2, 1) := by decide +kernel
theorem dX11_landsAt_14 : decode cX11_landsAt 14 = .ok (.idiv, 1) := by decide +kernel
theorem dX11_landsAt_15 : decode cX11_landsAt 15 = .ok (.iadd, 1) := by decide +kernel
theorem dX11_landsAt_16 : decode cX11_landsAt 16 = .ok (.aload_n 0, 1) := by decide +kernel
theorem dX11_landsAt_17 : decode cX11_landsAt 17 = .ok (.iload_n 2, 1) := by decide +kernel
theorem dX11_landsAt_18 : decode cX11_landsAt 18 = .ok (.iconst 2, 1) := by decide +kernel
theorem dX11_landsAt_19 : decode cX11_landsAt 19 = .ok (.invokevirtual 267, 3) := by decide +kernel
theorem dX11_landsAt_22 : decode cX11_landsAt 22 = .ok (.iconst 3, 1) := by decide +kernel
theorem dX11_landsAt_23 : decode cX11_landsAt 23 = .ok (.idiv, 1) := by decide +kernel
theorem dX11_landsAt_24 : decode cX11_landsAt 24 = .ok (.isub, 1) := by decide +kernel
theorem dX11_landsAt_25 : decode cX11_landsAt 25 = .ok (.istore 4, 2) := by decide +kernel
theorem dX11_landsAt_27 : decode cX11_landsAt 27 = .ok (.aload_n 0, 1) := by decide +kernel
theorem dX11_landsAt_28 : decode cX11_landsAt 28 = .ok (.getfield 70, 3) := by decide +kernel
theorem dX11_landsAt_31 : decode cX11_landsAt 31 = .ok (.iconst (-1), 1) := by decide +kernel
theorem dX11_landsAt_32 : decode cX11_landsAt 32 = .ok (.if_icmp .eq 92, 3) := by decide +kernel
theorem dX11_landsAt_35 : decode cX11_landsAt 35 = .ok (.aload_n 0, 1) := by decide +kernel
theorem dX11_landsAt_36 : decode cX11_landsAt 36 = .ok (.getfield 34, 3) := by decide +kernel
theorem dX11_landsAt_39 : decode cX11_landsAt 39 = .ok (.iconst 0, 1) := by decide +kernel
theorem dX11_landsAt_40 : decode cX11_landsAt 40 = .ok (.iload_n 3, 1) := by decide +kernel
theorem dX11_landsAt_41 : decode cX11_landsAt 41 = .ok (.iastore, 1) := by decide +kernel
theorem dX11_landsAt_42 : decode cX11_landsAt 42 = .ok (.aload_n 0, 1) := by decide +kernel
theorem dX11_landsAt_43 : decode cX11_landsAt 43 = .ok (.getfield 34, 3) := by decide +kernel
theorem dX11_landsAt_46 : decode cX11_landsAt 46 = .ok (.iconst 1, 1) := by decide +kernel
theorem dX11_landsAt_47 : decode cX11_landsAt 47 = .ok (.aload_n 0, 1) := by decide +kernel
theorem dX11_landsAt_48 : decode cX11_landsAt 48 = .ok (.getfield 55, 3) := by decide +kernel
theorem dX11_landsAt_51 : decode cX11_landsAt 51 = .ok (.iconst 2, 1) := by decide +kernel
theorem dX11_landsAt_52 : decode cX11_landsAt 52 = .ok (.iload_n 1, 1) := by decide +kernel
theorem dX11_landsAt_53 : decode cX11_landsAt 53 = .ok (.imul, 1) := by decide +kernel
theorem dX11_landsAt_54 : decode cX11_landsAt 54 = .ok (.iconst 0, 1) := by decide +kernel
theorem dX11_landsAt_55 : decode cX11_landsAt 55 = .ok (.iadd, 1) := by decide +kernel
theorem dX11_landsAt_56 : decode cX11_landsAt 56 = .ok (.iaload, 1) := by decide +kernel
theorem dX11_landsAt_57 : decode cX11_landsAt 57 = .ok (.iastore, 1) := by decide +kernel
theorem dX11_landsAt_58 : decode cX11_landsAt 58 = .ok (.aload_n 0, 1) := by decide +kernel
theorem dX11_landsAt_59 : decode cX11_landsAt 59 = .ok (.getfield 34, 3) := by decide +kernel
theorem dX11_landsAt_62 : decode cX11_landsAt 62 = .ok (.iconst 2, 1) := by decide +kernel
theorem dX11_landsAt_63 : decode cX11_landsAt 63 = .ok (.aload_n 0, 1) := by decide +kernel
theorem dX11_landsAt_64 : decode cX11_landsAt 64 = .ok (.iload_n 2, 1) := by decide +kernel
theorem dX11_landsAt_65 : decode cX11_landsAt 65 = .ok (.iconst 2, 1) := by decide +kernel
theorem dX11_landsAt_66 : decode cX11_landsAt 66 = .ok (.invokevirtual 267, 3) := by decide +kernel
theorem dX11_landsAt_69 : decode cX11_landsAt 69 = .ok (.iastore, 1) := by decide +kernel
theorem dX11_landsAt_70 : decode cX11_landsAt 70 = .ok (.aload_n 0, 1) := by decide +kernel
theorem dX11_landsAt_71 : decode cX11_landsAt 71 = .ok (.getfield 34, 3) := by decide +kernel
theorem dX11_landsAt_74 : decode cX11_landsAt 74 = .ok (.iconst 3, 1) := by decide +kernel
theorem dX11_landsAt_75 : decode cX11_landsAt 75 = .ok (.aload_n 0, 1) := by decide +kernel
theorem dX11_landsAt_76 : decode cX11_landsAt 76 = .ok (.getfield 64, 3) := by decide +kernel
theorem dX11_landsAt_79 : decode cX11_landsAt 79 = .ok (.bipush 6, 2) := by decide +kernel
theorem dX11_landsAt_81 : decode cX11_landsAt 81 = .ok (.iaload, 1) := by decide +kernel
theorem dX11_landsAt_82 : decode cX11_landsAt 82 = .ok (.iload_n 2, 1) := by decide +kernel
theorem dX11_landsAt_83 : decode cX11_landsAt 83 = .ok (.ishr, 1) := by decide +kernel
theorem dX11_landsAt_84 : decode cX11_landsAt 84 = .ok (.iconst 1, 1) := by decide +kernel
theorem dX11_landsAt_85 : decode cX11_landsAt 85 = .ok (.iand, 1) := by decide +kernel
theorem dX11_landsAt_86 : decode cX11_landsAt 86 = .ok (.iastore, 1) := by decide +kernel
theorem dX11_landsAt_87 : decode cX11_landsAt 87 = .ok (.aload_n 0, 1) := by decide +kernel
theorem dX11_landsAt_88 : decode cX11_landsAt 88 = .ok (.getfield 34, 3) := by decide +kernel
theorem dX11_landsAt_91 : decode cX11_landsAt 91 = .ok (.iconst 4, 1) := by decide +kernel
theorem dX11_landsAt_92 : decode cX11_landsAt 92 = .ok (.aload_n 0, 1) := by decide +kernel
theorem dX11_landsAt_93 : decode cX11_landsAt 93 = .ok (.iload_n 1, 1) := by decide +kernel
theorem dX11_landsAt_94 : decode cX11_landsAt 94 = .ok (.invokevirtual 286, 3) := by decide +kernel
theorem dX11_landsAt_97 : decode cX11_landsAt 97 = .ok (.invokestatic 289, 3) := by decide +kernel
theorem dX11_landsAt_100 : decode cX11_landsAt 100 = .ok (.iastore, 1) := by decide +kernel
theorem dX11_landsAt_101 : decode cX11_landsAt 101 = .ok (.aload_n 0, 1) := by decide +kernel
theorem dX11_landsAt_102 : decode cX11_landsAt 102 = .ok (.getfield 34, 3) := by decide +kernel
theorem dX11_landsAt_105 : decode cX11_landsAt 105 = .ok (.iconst 5, 1) := by decide +kernel
theorem dX11_landsAt_106 : decode cX11_landsAt 106 = .ok (.aload_n 0, 1) := by decide +kernel
theorem dX11_landsAt_107 : decode cX11_landsAt 107 = .ok (.getfield 64, 3) := by decide +kernel
theorem dX11_landsAt_110 : decode cX11_landsAt 110 = .ok (.bipush 9, 2) := by decide +kernel
theorem dX11_landsAt_112 : decode cX11_landsAt 112 = .ok (.iaload, 1) := by decide +kernel
theorem dX11_landsAt_113 : decode cX11_landsAt 113 = .ok (.iastore, 1) := by decide +kernel
theorem dX11_landsAt_114 : decode cX11_landsAt 114 = .ok (.aload_n 0, 1) := by decide +kernel
theorem dX11_landsAt_115 : decode cX11_landsAt 115 = .ok (.aload_n 0, 1) := by decide +kernel
theorem dX11_landsAt_116 : decode cX11_landsAt 116 = .ok (.getfield 70, 3) := by decide +kernel
theorem dX11_landsAt_119 : decode cX11_landsAt 119 = .ok (.invokevirtual 294, 3) := by decide +kernel
theorem dX11_landsAt_122 : decode cX11_landsAt 122 = .ok (.istore 4, 2) := by decide +kernel
theorem dX11_landsAt_124 : decode cX11_landsAt 124 = .ok (.iconst 0, 1) := by decide +kernel
theorem dX11_landsAt_125 : decode cX11_landsAt 125 = .ok (.bipush 60, 2) := by decide +kernel
theorem dX11_landsAt_127 : decode cX11_landsAt 127 = .ok (.iload 4, 2) := by decide +kernel
theorem dX11_landsAt_129 : decode cX11_landsAt 129 = .ok (.invokestatic 297, 3) := by decide +kernel
theorem dX11_landsAt_132 : decode cX11_landsAt 132 = .ok (.invokestatic 299, 3) := by decide +kernel
theorem dX11_landsAt_135 : decode cX11_landsAt 135 = .ok (.ireturn, 1) := by decide +kernel
theorem dX11_isDrain_0 : decode cX11_isDrain 0 = .ok (.iload_n 1, 1) := by decide +kernel
theorem dX11_isDrain_1 : decode cX11_isDrain 1 = .ok (.aload_n 0, 1) := by decide +kernel
theorem dX11_isDrain_2 : decode cX11_isDrain 2 = .ok (.getfield 52, 3) := by decide +kernel
theorem dX11_isDrain_5 : decode cX11_isDrain 5 = .ok (.iconst 0, 1) := by decide +kernel
theorem dX11_isDrain_6 : decode cX11_isDrain 6 = .ok (.iaload, 1) := by decide +kernel
theorem dX11_isDrain_7 : decode cX11_isDrain 7 = .ok (.aload_n 0, 1) := by decide +kernel
theorem dX11_isDrain_8 : decode cX11_isDrain 8 = .ok (.getfield 52, 3) := by decide +kernel
theorem dX11_isDrain_11 : decode cX11_isDrain 11 = .ok (.iconst 1, 1) := by decide +kernel
theorem dX11_isDrain_12 : decode cX11_isDrain 12 = .ok (.iaload, 1) := by decide +kernel
theorem dX11_isDrain_13 : decode cX11_isDrain 13 = .ok (.iadd, 1) := by decide +kernel
theorem dX11_isDrain_14 : decode cX11_isDrain 14 = .ok (.if_icmp .lt 7, 3) := by decide +kernel
theorem dX11_isDrain_17 : decode cX11_isDrain 17 = .ok (.iconst 1, 1) := by decide +kernel
theorem dX11_isDrain_18 : decode cX11_isDrain 18 = .ok (.goto 4, 3) := by decide +kernel
theorem dX11_isDrain_21 : decode cX11_isDrain 21 = .ok (.iconst 0, 1) := by decide +kernel
theorem dX11_isDrain_22 : decode cX11_isDrain 22 = .ok (.ireturn, 1) := by decide +kernel
theorem dX11_offHole_0 : decode cX11_offHole 0 = .ok (.iload_n 1, 1) := by decide +kernel
theorem dX11_offHole_1 : decode cX11_offHole 1 = .ok (.aload_n 0, 1) := by decide +kernel
theorem dX11_offHole_2 : decode cX11_offHole 2 = .ok (.getfield 52, 3) := by decide +kernel
theorem dX11_offHole_5 : decode cX11_offHole 5 = .ok (.iconst 0, 1) := by decide +kernel
theorem dX11_offHole_6 : decode cX11_offHole 6 = .ok (.iaload, 1) := by decide +kernel
theorem dX11_offHole_7 : decode cX11_offHole 7 = .ok (.isub, 1) := by decide +kernel
theorem dX11_offHole_8 : decode cX11_offHole 8 = .ok (.invokestatic 301, 3) := by decide +kernel
theorem dX11_offHole_11 : decode cX11_offHole 11 = .ok (.ireturn, 1) := by decide +kernel
theorem dX11_winner_0 : decode cX11_winner 0 = .ok (.aload_n 0, 1) := by decide +kernel
theorem dX11_winner_1 : decode cX11_winner 1 = .ok (.iload_n 1, 1) := by decide +kernel
theorem dX11_winner_2 : decode cX11_winner 2 = .ok (.invokevirtual 304, 3) := by decide +kernel
theorem dX11_winner_5 : decode cX11_winner 5 = .ok (.ifCond .ne 24, 3) := by decide +kernel
theorem dX11_winner_8 : decode cX11_winner 8 = .ok (.aload_n 0, 1) := by decide +kernel
theorem dX11_winner_9 : decode cX11_winner 9 = .ok (.iload_n 2, 1) := by decide +kernel
theorem dX11_winner_10 : decode cX11_winner 10 = .ok (.invokevirtual 304, 3) := by decide +kernel
theorem dX11_winner_13 : decode cX11_winner 13 = .ok (.ifCond .ne 16, 3) := by decide +kernel
theorem dX11_winner_16 : decode cX11_winner 16 = .ok (.aload_n 0, 1) := by decide +kernel
theorem dX11_winner_17 : decode cX11_winner 17 = .ok (.iload_n 1, 1) := by decide +kernel
theorem dX11_winner_18 : decode cX11_winner 18 = .ok (.invokevirtual 307, 3) := by decide +kernel
theorem dX11_winner_21 : decode cX11_winner 21 = .ok (.aload_n 0, 1) := by decide +kernel
theorem dX11_winner_22 : decode cX11_winner 22 = .ok (.iload_n 2, 1) := by decide +kernel
theorem dX11_winner_23 : decode cX11_winner 23 = .ok (.invokevirtual 307, 3) := by decide +kernel
theorem dX11_winner_26 : decode cX11_winner 26 = .ok (.if_icmp .ne 5, 3) := by decide +kernel
theorem dX11_winner_29 : decode cX11_winner 29 = .ok (.iconst 0, 1) := by decide +kernel
theorem dX11_winner_30 : decode cX11_winner 30 = .ok (.ireturn, 1) := by decide +kernel
theorem dX11_winner_31 : decode cX11_winner 31 = .ok (.aload_n 0, 1) := by decide +kernel
theorem dX11_winner_32 : decode cX11_winner 32 = .ok (.iload_n 1, 1) := by decide +kernel
theorem dX11_winner_33 : decode cX11_winner 33 = .ok (.invokevirtual 307, 3) := by decide +kernel
theorem dX11_winner_36 : decode cX11_winner 36 = .ok (.aload_n 0, 1) := by decide +kernel
theorem dX11_winner_37 : decode cX11_winner 37 = .ok (.iload_n 2, 1) := by decide +kernel
theorem dX11_winner_38 : decode cX11_winner 38 = .ok (.invokevirtual 307, 3) := by decide +kernel
theorem dX11_winner_41 : decode cX11_winner 41 = .ok (.if_icmp .ge 7, 3) := by decide +kernel
theorem dX11_winner_44 : decode cX11_winner 44 = .ok (.iconst 1, 1) := by decide +kernel
theorem dX11_winner_45 : decode cX11_winner 45 = .ok (.goto 4, 3) := by decide +kernel
theorem dX11_winner_48 : decode cX11_winner 48 = .ok (.iconst 2, 1) := by decide +kernel
theorem dX11_winner_49 : decode cX11_winner 49 = .ok (.ireturn, 1) := by decide +kernel
theorem dX11_worthNow_0 : decode cX11_worthNow 0 = .ok (.iconst 0, 1) := by decide +kernel
theorem dX11_worthNow_1 : decode cX11_worthNow 1 = .ok (.aload_n 0, 1) := by decide +kernel
theorem dX11_worthNow_2 : decode cX11_worthNow 2 = .ok (.iload_n 1, 1) := by decide +kernel
theorem dX11_worthNow_3 : decode cX11_worthNow 3 = .ok (.iconst 2, 1) := by decide +kernel
theorem dX11_worthNow_4 : decode cX11_worthNow 4 = .ok (.invokevirtual 267, 3) := by decide +kernel
theorem dX11_worthNow_7 : decode cX11_worthNow 7 = .ok (.aload_n 0, 1) := by decide +kernel
theorem dX11_worthNow_8 : decode cX11_worthNow 8 = .ok (.getfield 64, 3) := by decide +kernel
theorem dX11_worthNow_11 : decode cX11_worthNow 11 = .ok (.bipush 6, 2) := by decide +kernel
theorem dX11_worthNow_13 : decode cX11_worthNow 13 = .ok (.iaload, 1) := by decide +kernel
theorem dX11_worthNow_14 : decode cX11_worthNow 14 = .ok (.iload_n 1, 1) := by decide +kernel
theorem dX11_worthNow_15 : decode cX11_worthNow 15 = .ok (.invokestatic 219, 3) := by decide +kernel
theorem dX11_worthNow_18 : decode cX11_worthNow 18 = .ok (.ifCond .eq 7, 3) := by decide +kernel
theorem dX11_worthNow_21 : decode cX11_worthNow 21 = .ok (.iconst 2, 1) := by decide +kernel
theorem dX11_worthNow_22 : decode cX11_worthNow 22 = .ok (.goto 4, 3) := by decide +kernel
theorem dX11_worthNow_25 : decode cX11_worthNow 25 = .ok (.iconst 0, 1) := by decide +kernel
theorem dX11_worthNow_26 : decode cX11_worthNow 26 = .ok (.isub, 1) := by decide +kernel
theorem dX11_worthNow_27 : decode cX11_worthNow 27 = .ok (.invokestatic 299, 3) := by decide +kernel
theorem dX11_worthNow_30 : decode cX11_worthNow 30 = .ok (.ireturn, 1) := by decide +kernel
theorem dX11_strengthOf_0 : decode cX11_strengthOf 0 = .ok (.iconst 0, 1) := by decide +kernel
theorem dX11_strengthOf_1 : decode cX11_strengthOf 1 = .ok (.istore_n 3, 1) := by decide +kernel
theorem dX11_strengthOf_2 : decode cX11_strengthOf 2 = .ok (.iconst 0, 1) := by decide +kernel
theorem dX11_strengthOf_3 : decode cX11_strengthOf 3 = .ok (.istore 4, 2) := by decide +kernel
theorem dX11_strengthOf_5 : decode cX11_strengthOf 5 = .ok (.iload 4, 2) := by decide +kernel
theorem dX11_strengthOf_7 : decode cX11_strengthOf 7 = .ok (.aload_n 0, 1) := by decide +kernel
theorem dX11_strengthOf_8 : decode cX11_strengthOf 8 = .ok (.getfield 261, 3) := by decide +kernel
theorem dX11_strengthOf_11 : decode cX11_strengthOf 11 = .ok (.if_icmp .ge 65, 3) := by decide +kernel
theorem dX11_strengthOf_14 : decode cX11_strengthOf 14 = .ok (.aload_n 0, 1) := by decide +kernel
theorem dX11_strengthOf_15 : decode cX11_strengthOf 15 = .ok (.getfield 64, 3) := by decide +kernel
theorem dX11_strengthOf_18 : decode cX11_strengthOf 18 = .ok (.iconst 0, 1) := by decide +kernel
theorem dX11_strengthOf_19 : decode cX11_strengthOf 19 = .ok (.iload 4, 2) := by decide +kernel
theorem dX11_strengthOf_21 : decode cX11_strengthOf 21 = .ok (.iadd, 1) := by decide +kernel
theorem dX11_strengthOf_22 : decode cX11_strengthOf 22 = .ok (.iaload, 1) := by decide +kernel
theorem dX11_strengthOf_23 : decode cX11_strengthOf 23 = .ok (.istore 5, 2) := by decide +kernel
theorem dX11_strengthOf_25 : decode cX11_strengthOf 25 = .ok (.iload_n 3, 1) := by decide +kernel
theorem dX11_strengthOf_26 : decode cX11_strengthOf 26 = .ok (.iload 5, 2) := by decide +kernel
theorem dX11_strengthOf_28 : decode cX11_strengthOf 28 = .ok (.iconst (-1), 1) := by decide +kernel
theorem dX11_strengthOf_29 : decode cX11_strengthOf 29 = .ok (.if_icmp .eq 38, 3) := by decide +kernel
theorem dX11_strengthOf_32 : decode cX11_strengthOf 32 = .ok (.aload_n 0, 1) := by decide +kernel
theorem dX11_strengthOf_33 : decode cX11_strengthOf 33 = .ok (.iload 4, 2) := by decide +kernel
theorem dX11_strengthOf_35 : decode cX11_strengthOf 35 = .ok (.iconst 1, 1) := by decide +kernel
theorem dX11_strengthOf_36 : decode cX11_strengthOf 36 = .ok (.invokevirtual 267, 3) := by decide +kernel
theorem dX11_strengthOf_39 : decode cX11_strengthOf 39 = .ok (.iload_n 2, 1) := by decide +kernel
theorem dX11_strengthOf_40 : decode cX11_strengthOf 40 = .ok (.if_icmp .ne 27, 3) := by decide +kernel
theorem dX11_strengthOf_43 : decode cX11_strengthOf 43 = .ok (.aload_n 0, 1) := by decide +kernel
theorem dX11_strengthOf_44 : decode cX11_strengthOf 44 = .ok (.getfield 55, 3) := by decide +kernel
theorem dX11_strengthOf_47 : decode cX11_strengthOf 47 = .ok (.iconst 2, 1) := by decide +kernel
theorem dX11_strengthOf_48 : decode cX11_strengthOf 48 = .ok (.iload 5, 2) := by decide +kernel
theorem dX11_strengthOf_50 : decode cX11_strengthOf 50 = .ok (.imul, 1) := by decide +kernel
theorem dX11_strengthOf_51 : decode cX11_strengthOf 51 = .ok (.iconst 1, 1) := by decide +kernel
theorem dX11_strengthOf_52 : decode cX11_strengthOf 52 = .ok (.iadd, 1) := by decide +kernel
theorem dX11_strengthOf_53 : decode cX11_strengthOf 53 = .ok (.iaload, 1) := by decide +kernel
theorem dX11_strengthOf_54 : decode cX11_strengthOf 54 = .ok (.iload_n 1, 1) := by decide +kernel
theorem dX11_strengthOf_55 : decode cX11_strengthOf 55 = .ok (.if_icmp .ne 12, 3) := by decide +kernel
theorem dX11_strengthOf_58 : decode cX11_strengthOf 58 = .ok (.aload_n 0, 1) := by decide +kernel
theorem dX11_strengthOf_59 : decode cX11_strengthOf 59 = .ok (.iload 4, 2) := by decide +kernel
theorem dX11_strengthOf_61 : decode cX11_strengthOf 61 = .ok (.invokevirtual 310, 3) := by decide +kernel
theorem dX11_strengthOf_64 : decode cX11_strengthOf 64 = .ok (.goto 4, 3) := by decide +kernel
theorem dX11_strengthOf_67 : decode cX11_strengthOf 67 = .ok (.iconst 0, 1) := by decide +kernel
theorem dX11_strengthOf_68 : decode cX11_strengthOf 68 = .ok (.iadd, 1) := by decide +kernel
theorem dX11_strengthOf_69 : decode cX11_strengthOf 69 = .ok (.istore_n 3, 1) := by decide +kernel
theorem dX11_strengthOf_70 : decode cX11_strengthOf 70 = .ok (.iinc 4 1, 3) := by decide +kernel
theorem dX11_strengthOf_73 : decode cX11_strengthOf 73 = .ok (.goto (-68), 3) := by decide +kernel
theorem dX11_strengthOf_76 : decode cX11_strengthOf 76 = .ok (.iload_n 3, 1) := by decide +kernel
theorem dX11_strengthOf_77 : decode cX11_strengthOf 77 = .ok (.ireturn, 1) := by decide +kernel
theorem dX11_weatherOf_0 : decode cX11_weatherOf 0 = .ok (.iconst (-1), 1) := by decide +kernel
theorem dX11_weatherOf_1 : decode cX11_weatherOf 1 = .ok (.istore_n 2, 1) := by decide +kernel
theorem dX11_weatherOf_2 : decode cX11_weatherOf 2 = .ok (.iconst 0, 1) := by decide +kernel
theorem dX11_weatherOf_3 : decode cX11_weatherOf 3 = .ok (.istore_n 3, 1) := by decide +kernel
theorem dX11_weatherOf_4 : decode cX11_weatherOf 4 = .ok (.iconst 0, 1) := by decide +kernel
theorem dX11_weatherOf_5 : decode cX11_weatherOf 5 = .ok (.istore 4, 2) := by decide +kernel
theorem dX11_weatherOf_7 : decode cX11_weatherOf 7 = .ok (.iload 4, 2) := by decide +kernel
theorem dX11_weatherOf_9 : decode cX11_weatherOf 9 = .ok (.bipush 6, 2) := by decide +kernel
theorem dX11_weatherOf_11 : decode cX11_weatherOf 11 = .ok (.if_icmp .ge 38, 3) := by decide +kernel
theorem dX11_weatherOf_14 : decode cX11_weatherOf 14 = .ok (.aload_n 0, 1) := by decide +kernel
theorem dX11_weatherOf_15 : decode cX11_weatherOf 15 = .ok (.iload_n 1, 1) := by decide +kernel
theorem dX11_weatherOf_16 : decode cX11_weatherOf 16 = .ok (.iload 4, 2) := by decide +kernel
theorem dX11_weatherOf_18 : decode cX11_weatherOf 18 = .ok (.invokevirtual 313, 3) := by decide +kernel
theorem dX11_weatherOf_21 : decode cX11_weatherOf 21 = .ok (.istore 5, 2) := by decide +kernel
theorem dX11_weatherOf_23 : decode cX11_weatherOf 23 = .ok (.iload 5, 2) := by decide +kernel
theorem dX11_weatherOf_25 : decode cX11_weatherOf 25 = .ok (.iload_n 3, 1) := by decide +kernel
theorem dX11_weatherOf_26 : decode cX11_weatherOf 26 = .ok (.if_icmp .le 8, 3) := by decide +kernel
theorem dX11_weatherOf_29 : decode cX11_weatherOf 29 = .ok (.iload 4, 2) := by decide +kernel
theorem dX11_weatherOf_31 : decode cX11_weatherOf 31 = .ok (.goto 4, 3) := by decide +kernel
theorem dX11_weatherOf_34 : decode cX11_weatherOf 34 = .ok (.iload_n 2, 1) := by decide +kernel
theorem dX11_weatherOf_35 : decode cX11_weatherOf 35 = .ok (.istore_n 2, 1) := by decide +kernel
theorem dX11_weatherOf_36 : decode cX11_weatherOf 36 = .ok (.iload_n 3, 1) := by decide +kernel
theorem dX11_weatherOf_37 : decode cX11_weatherOf 37 = .ok (.iload 5, 2) := by decide +kernel
theorem dX11_weatherOf_39 : decode cX11_weatherOf 39 = .ok (.invokestatic 299, 3) := by decide +kernel
theorem dX11_weatherOf_42 : decode cX11_weatherOf 42 = .ok (.istore_n 3, 1) := by decide +kernel
theorem dX11_weatherOf_43 : decode cX11_weatherOf 43 = .ok (.iinc 4 1, 3) := by decide +kernel
theorem dX11_weatherOf_46 : decode cX11_weatherOf 46 = .ok (.goto (-39), 3) := by decide +kernel
theorem dX11_weatherOf_49 : decode cX11_weatherOf 49 = .ok (.iload_n 2, 1) := by decide +kernel
theorem dX11_weatherOf_50 : decode cX11_weatherOf 50 = .ok (.ireturn, 1) := by decide +kernel
theorem dX11_isContent_0 : decode cX11_isContent 0 = .ok (.aload_n 0, 1) := by decide +kernel
theorem dX11_isContent_1 : decode cX11_isContent 1 = .ok (.aload_n 0, 1) := by decide +kernel
theorem dX11_isContent_2 : decode cX11_isContent 2 = .ok (.iload_n 1, 1) := by decide +kernel
theorem dX11_isContent_3 : decode cX11_isContent 3 = .ok (.iconst 0, 1) := by decide +kernel
theorem dX11_isContent_4 : decode cX11_isContent 4 = .ok (.invokevirtual 316, 3) := by decide +kernel
theorem dX11_isContent_7 : decode cX11_isContent 7 = .ok (.invokevirtual 319, 3) := by decide +kernel
theorem dX11_isContent_10 : decode cX11_isContent 10 = .ok (.aload_n 0, 1) := by decide +kernel
theorem dX11_isContent_11 : decode cX11_isContent 11 = .ok (.iload_n 1, 1) := by decide +kernel
theorem dX11_isContent_12 : decode cX11_isContent 12 = .ok (.iconst 1, 1) := by decide +kernel
theorem dX11_isContent_13 : decode cX11_isContent 13 = .ok (.invokevirtual 316, 3) := by decide +kernel
theorem dX11_isContent_16 : decode cX11_isContent 16 = .ok (.if_icmp .ne 7, 3) := by decide +kernel
theorem dX11_isContent_19 : decode cX11_isContent 19 = .ok (.iconst 1, 1) := by decide +kernel
theorem dX11_isContent_20 : decode cX11_isContent 20 = .ok (.goto 4, 3) := by decide +kernel
theorem dX11_isContent_23 : decode cX11_isContent 23 = .ok (.iconst 0, 1) := by decide +kernel
theorem dX11_isContent_24 : decode cX11_isContent 24 = .ok (.ireturn, 1) := by decide +kernel
theorem dX11_contents_0 : decode cX11_contents 0 = .ok (.iconst 0, 1) := by decide +kernel
theorem dX11_contents_1 : decode cX11_contents 1 = .ok (.istore_n 1, 1) := by decide +kernel
theorem dX11_contents_2 : decode cX11_contents 2 = .ok (.iconst 0, 1) := by decide +kernel
theorem dX11_contents_3 : decode cX11_contents 3 = .ok (.istore_n 2, 1) := by decide +kernel
theorem dX11_contents_4 : decode cX11_contents 4 = .ok (.iload_n 2, 1) := by decide +kernel
theorem dX11_contents_5 : decode cX11_contents 5 = .ok (.aload_n 0, 1) := by decide +kernel
theorem dX11_contents_6 : decode cX11_contents 6 = .ok (.getfield 264, 3) := by decide +kernel
theorem dX11_contents_9 : decode cX11_contents 9 = .ok (.if_icmp .ge 27, 3) := by decide +kernel
theorem dX11_contents_12 : decode cX11_contents 12 = .ok (.iload_n 1, 1) := by decide +kernel
theorem dX11_contents_13 : decode cX11_contents 13 = .ok (.aload_n 0, 1) := by decide +kernel
theorem dX11_contents_14 : decode cX11_contents 14 = .ok (.iload_n 2, 1) := by decide +kernel
theorem dX11_contents_15 : decode cX11_contents 15 = .ok (.invokevirtual 322, 3) := by decide +kernel
theorem dX11_contents_18 : decode cX11_contents 18 = .ok (.ifCond .eq 9, 3) := by decide +kernel
theorem dX11_contents_21 : decode cX11_contents 21 = .ok (.iconst 1, 1) := by decide +kernel
theorem dX11_contents_22 : decode cX11_contents 22 = .ok (.iload_n 2, 1) := by decide +kernel
theorem dX11_contents_23 : decode cX11_contents 23 = .ok (.ishl, 1) := by decide +kernel
theorem dX11_contents_24 : decode cX11_contents 24 = .ok (.goto 4, 3) := by decide +kernel
theorem dX11_contents_27 : decode cX11_contents 27 = .ok (.iconst 0, 1) := by decide +kernel
theorem dX11_contents_28 : decode cX11_contents 28 = .ok (.ior, 1) := by decide +kernel
theorem dX11_contents_29 : decode cX11_contents 29 = .ok (.istore_n 1, 1) := by decide +kernel
theorem dX11_contents_30 : decode cX11_contents 30 = .ok (.iinc 2 1, 3) := by decide +kernel
theorem dX11_contents_33 : decode cX11_contents 33 = .ok (.goto (-29), 3) := by decide +kernel
theorem dX11_contents_36 : decode cX11_contents 36 = .ok (.iload_n 1, 1) := by decide +kernel
theorem dX11_contents_37 : decode cX11_contents 37 = .ok (.ireturn, 1) := by decide +kernel
theorem dX11_payOf_0 : decode cX11_payOf 0 = .ok (.iconst 0, 1) := by decide +kernel
theorem dX11_payOf_1 : decode cX11_payOf 1 = .ok (.istore_n 2, 1) := by decide +kernel
theorem dX11_payOf_2 : decode cX11_payOf 2 = .ok (.iconst 0, 1) := by decide +kernel
theorem dX11_payOf_3 : decode cX11_payOf 3 = .ok (.istore_n 3, 1) := by decide +kernel
theorem dX11_payOf_4 : decode cX11_payOf 4 = .ok (.iload_n 3, 1) := by decide +kernel
theorem dX11_payOf_5 : decode cX11_payOf 5 = .ok (.aload_n 0, 1) := by decide +kernel
theorem dX11_payOf_6 : decode cX11_payOf 6 = .ok (.getfield 264, 3) := by decide +kernel
theorem dX11_payOf_9 : decode cX11_payOf 9 = .ok (.if_icmp .ge 30, 3) := by decide +kernel
theorem dX11_payOf_12 : decode cX11_payOf 12 = .ok (.iload_n 2, 1) := by decide +kernel
theorem dX11_payOf_13 : decode cX11_payOf 13 = .ok (.iload_n 1, 1) := by decide +kernel
theorem dX11_payOf_14 : decode cX11_payOf 14 = .ok (.iload_n 3, 1) := by decide +kernel
theorem dX11_payOf_15 : decode cX11_payOf 15 = .ok (.invokestatic 219, 3) := by decide +kernel
theorem dX11_payOf_18 : decode cX11_payOf 18 = .ok (.ifCond .eq 12, 3) := by decide +kernel
theorem dX11_payOf_21 : decode cX11_payOf 21 = .ok (.aload_n 0, 1) := by decide +kernel
theorem dX11_payOf_22 : decode cX11_payOf 22 = .ok (.iload_n 3, 1) := by decide +kernel
theorem dX11_payOf_23 : decode cX11_payOf 23 = .ok (.iconst 2, 1) := by decide +kernel
theorem dX11_payOf_24 : decode cX11_payOf 24 = .ok (.invokevirtual 316, 3) := by decide +kernel
theorem dX11_payOf_27 : decode cX11_payOf 27 = .ok (.goto 4, 3) := by decide +kernel
theorem dX11_payOf_30 : decode cX11_payOf 30 = .ok (.iconst 0, 1) := by decide +kernel
theorem dX11_payOf_31 : decode cX11_payOf 31 = .ok (.iadd, 1) := by decide +kernel
theorem dX11_payOf_32 : decode cX11_payOf 32 = .ok (.istore_n 2, 1) := by decide +kernel
theorem dX11_payOf_33 : decode cX11_payOf 33 = .ok (.iinc 3 1, 3) := by decide +kernel
theorem dX11_payOf_36 : decode cX11_payOf 36 = .ok (.goto (-32), 3) := by decide +kernel
theorem dX11_payOf_39 : decode cX11_payOf 39 = .ok (.iload_n 2, 1) := by decide +kernel
theorem dX11_payOf_40 : decode cX11_payOf 40 = .ok (.ireturn, 1) := by decide +kernel
theorem dX11_rule_0 : decode cX11_rule 0 = .ok (.aload_n 0, 1) := by decide +kernel
theorem dX11_rule_1 : decode cX11_rule 1 = .ok (.getfield 261, 3) := by decide +kernel
theorem dX11_rule_4 : decode cX11_rule 4 = .ok (.ifCond .eq 12, 3) := by decide +kernel
theorem dX11_rule_7 : decode cX11_rule 7 = .ok (.iload_n 1, 1) := by decide +kernel
theorem dX11_rule_8 : decode cX11_rule 8 = .ok (.iconst 0, 1) := by decide +kernel
theorem dX11_rule_9 : decode cX11_rule 9 = .ok (.iconst 2, 1) := by decide +kernel
theorem dX11_rule_10 : decode cX11_rule 10 = .ok (.invokestatic 208, 3) := by decide +kernel
theorem dX11_rule_13 : decode cX11_rule 13 = .ok (.ifCond .ne 7, 3) := by decide +kernel
theorem dX11_rule_16 : decode cX11_rule 16 = .ok (.iconst (-1), 1) := by decide +kernel
theorem dX11_rule_17 : decode cX11_rule 17 = .ok (.goto 24, 3) := by decide +kernel
theorem dX11_rule_20 : decode cX11_rule 20 = .ok (.iload_n 1, 1) := by decide +kernel
theorem dX11_rule_21 : decode cX11_rule 21 = .ok (.iconst 2, 1) := by decide +kernel
theorem dX11_rule_22 : decode cX11_rule 22 = .ok (.if_icmp .ne 13, 3) := by decide +kernel
theorem dX11_rule_25 : decode cX11_rule 25 = .ok (.aload_n 0, 1) := by decide +kernel
theorem dX11_rule_26 : decode cX11_rule 26 = .ok (.getfield 64, 3) := by decide +kernel
theorem dX11_rule_29 : decode cX11_rule 29 = .ok (.bipush 8, 2) := by decide +kernel
theorem dX11_rule_31 : decode cX11_rule 31 = .ok (.iaload, 1) := by decide +kernel
theorem dX11_rule_32 : decode cX11_rule 32 = .ok (.goto 9, 3) := by decide +kernel
theorem dX11_rule_35 : decode cX11_rule 35 = .ok (.aload_n 0, 1) := by decide +kernel
theorem dX11_rule_36 : decode cX11_rule 36 = .ok (.getfield 52, 3) := by decide +kernel
theorem dX11_rule_39 : decode cX11_rule 39 = .ok (.iload_n 1, 1) := by decide +kernel
theorem dX11_rule_40 : decode cX11_rule 40 = .ok (.iaload, 1) := by decide +kernel
theorem dX11_rule_41 : decode cX11_rule 41 = .ok (.ireturn, 1) := by decide +kernel
theorem dX11_boy_0 : decode cX11_boy 0 = .ok (.aload_n 0, 1) := by decide +kernel
theorem dX11_boy_1 : decode cX11_boy 1 = .ok (.aload_n 0, 1) := by decide +kernel
theorem dX11_boy_2 : decode cX11_boy 2 = .ok (.iload_n 1, 1) := by decide +kernel
theorem dX11_boy_3 : decode cX11_boy 3 = .ok (.invokevirtual 325, 3) := by decide +kernel
theorem dX11_boy_6 : decode cX11_boy 6 = .ok (.ifCond .eq 16, 3) := by decide +kernel
theorem dX11_boy_9 : decode cX11_boy 9 = .ok (.iload_n 2, 1) := by decide +kernel
theorem dX11_boy_10 : decode cX11_boy 10 = .ok (.iconst 0, 1) := by decide +kernel
theorem dX11_boy_11 : decode cX11_boy 11 = .ok (.iconst 2, 1) := by decide +kernel
theorem dX11_boy_12 : decode cX11_boy 12 = .ok (.invokestatic 208, 3) := by decide +kernel
theorem dX11_boy_15 : decode cX11_boy 15 = .ok (.ifCond .eq 7, 3) := by decide +kernel
theorem dX11_boy_18 : decode cX11_boy 18 = .ok (.iconst 0, 1) := by decide +kernel
theorem dX11_boy_19 : decode cX11_boy 19 = .ok (.goto 4, 3) := by decide +kernel
theorem dX11_boy_22 : decode cX11_boy 22 = .ok (.iconst 1, 1) := by decide +kernel
theorem dX11_boy_23 : decode cX11_boy 23 = .ok (.putfield 93, 3) := by decide +kernel
theorem dX11_boy_26 : decode cX11_boy 26 = .ok (.aload_n 0, 1) := by decide +kernel
theorem dX11_boy_27 : decode cX11_boy 27 = .ok (.getfield 93, 3) := by decide +kernel
theorem dX11_boy_30 : decode cX11_boy 30 = .ok (.iconst 1, 1) := by decide +kernel
theorem dX11_boy_31 : decode cX11_boy 31 = .ok (.if_icmp .ne 5, 3) := by decide +kernel
theorem dX11_boy_34 : decode cX11_boy 34 = .ok (.iconst 0, 1) := by decide +kernel
theorem dX11_boy_35 : decode cX11_boy 35 = .ok (.ireturn, 1) := by decide +kernel
theorem dX11_boy_36 : decode cX11_boy 36 = .ok (.iload_n 2, 1) := by decide +kernel
theorem dX11_boy_37 : decode cX11_boy 37 = .ok (.iconst 2, 1) := by decide +kernel
theorem dX11_boy_38 : decode cX11_boy 38 = .ok (.if_icmp .ge 16, 3) := by decide +kernel
theorem dX11_boy_41 : decode cX11_boy 41 = .ok (.aload_n 0, 1) := by decide +kernel
theorem dX11_boy_42 : decode cX11_boy 42 = .ok (.getfield 55, 3) := by decide +kernel
theorem dX11_boy_45 : decode cX11_boy 45 = .ok (.iconst 2, 1) := by decide +kernel
theorem dX11_boy_46 : decode cX11_boy 46 = .ok (.iload_n 1, 1) := by decide +kernel
theorem dX11_boy_47 : decode cX11_boy 47 = .ok (.imul, 1) := by decide +kernel
theorem dX11_boy_48 : decode cX11_boy 48 = .ok (.iload_n 2, 1) := by decide +kernel
theorem dX11_boy_49 : decode cX11_boy 49 = .ok (.iadd, 1) := by decide +kernel
theorem dX11_boy_50 : decode cX11_boy 50 = .ok (.iaload, 1) := by decide +kernel
theorem dX11_boy_51 : decode cX11_boy 51 = .ok (.goto 11, 3) := by decide +kernel
theorem dX11_boy_54 : decode cX11_boy 54 = .ok (.aload_n 0, 1) := by decide +kernel
theorem dX11_boy_55 : decode cX11_boy 55 = .ok (.iload_n 1, 1) := by decide +kernel
theorem dX11_boy_56 : decode cX11_boy 56 = .ok (.invokevirtual 286, 3) := by decide +kernel
theorem dX11_boy_59 : decode cX11_boy 59 = .ok (.invokestatic 289, 3) := by decide +kernel
theorem dX11_boy_62 : decode cX11_boy 62 = .ok (.ireturn, 1) := by decide +kernel
theorem dX11_marble_0 : decode cX11_marble 0 = .ok (.aload_n 0, 1) := by decide +kernel
theorem dX11_marble_1 : decode cX11_marble 1 = .ok (.iload_n 1, 1) := by decide +kernel
theorem dX11_marble_2 : decode cX11_marble 2 = .ok (.invokevirtual 328, 3) := by decide +kernel
theorem dX11_marble_5 : decode cX11_marble 5 = .ok (.ifCond .eq 12, 3) := by decide +kernel
theorem dX11_marble_8 : decode cX11_marble 8 = .ok (.iload_n 2, 1) := by decide +kernel
theorem dX11_marble_9 : decode cX11_marble 9 = .ok (.iconst 0, 1) := by decide +kernel
theorem dX11_marble_10 : decode cX11_marble 10 = .ok (.iconst 4, 1) := by decide +kernel
theorem dX11_marble_11 : decode cX11_marble 11 = .ok (.invokestatic 208, 3) := by decide +kernel
theorem dX11_marble_14 : decode cX11_marble 14 = .ok (.ifCond .ne 7, 3) := by decide +kernel
theorem dX11_marble_17 : decode cX11_marble 17 = .ok (.ldc_w 331, 3) := by decide +kernel
theorem dX11_marble_20 : decode cX11_marble 20 = .ok (.ireturn, 1) := by decide +kernel
theorem dX11_marble_21 : decode cX11_marble 21 = .ok (.iload_n 2, 1) := by decide +kernel
theorem dX11_marble_22 : decode cX11_marble 22 = .ok (.tableswitch 67 0 4 #[34, 67, 67, 43, 55], 34) := by decide +kernel
theorem dX11_marble_56 : decode cX11_marble 56 = .ok (.aload_n 0, 1) := by decide +kernel
theorem dX11_marble_57 : decode cX11_marble 57 = .ok (.getfield 64, 3) := by decide +kernel
theorem dX11_marble_60 : decode cX11_marble 60 = .ok (.iconst 0, 1) := by decide +kernel
theorem dX11_marble_61 : decode cX11_marble 61 = .ok (.iload_n 1, 1) := by decide +kernel
theorem dX11_marble_62 : decode cX11_marble 62 = .ok (.iadd, 1) := by decide +kernel
theorem dX11_marble_63 : decode cX11_marble 63 = .ok (.iaload, 1) := by decide +kernel
theorem dX11_marble_64 : decode cX11_marble 64 = .ok (.ireturn, 1) := by decide +kernel
theorem dX11_marble_65 : decode cX11_marble 65 = .ok (.aload_n 0, 1) := by decide +kernel
theorem dX11_marble_66 : decode cX11_marble 66 = .ok (.getfield 64, 3) := by decide +kernel
theorem dX11_marble_69 : decode cX11_marble 69 = .ok (.bipush 6, 2) := by decide +kernel
theorem dX11_marble_71 : decode cX11_marble 71 = .ok (.iaload, 1) := by decide +kernel
theorem dX11_marble_72 : decode cX11_marble 72 = .ok (.iload_n 1, 1) := by decide +kernel
theorem dX11_marble_73 : decode cX11_marble 73 = .ok (.ishr, 1) := by decide +kernel
theorem dX11_marble_74 : decode cX11_marble 74 = .ok (.iconst 1, 1) := by decide +kernel
theorem dX11_marble_75 : decode cX11_marble 75 = .ok (.iand, 1) := by decide +kernel
theorem dX11_marble_76 : decode cX11_marble 76 = .ok (.ireturn, 1) := by decide +kernel
theorem dX11_marble_77 : decode cX11_marble 77 = .ok (.aload_n 0, 1) := by decide +kernel
theorem dX11_marble_78 : decode cX11_marble 78 = .ok (.getfield 64, 3) := by decide +kernel
theorem dX11_marble_81 : decode cX11_marble 81 = .ok (.bipush 7, 2) := by decide +kernel
theorem dX11_marble_83 : decode cX11_marble 83 = .ok (.iaload, 1) := by decide +kernel
theorem dX11_marble_84 : decode cX11_marble 84 = .ok (.iload_n 1, 1) := by decide +kernel
theorem dX11_marble_85 : decode cX11_marble 85 = .ok (.ishr, 1) := by decide +kernel
theorem dX11_marble_86 : decode cX11_marble 86 = .ok (.iconst 1, 1) := by decide +kernel
theorem dX11_marble_87 : decode cX11_marble 87 = .ok (.iand, 1) := by decide +kernel
theorem dX11_marble_88 : decode cX11_marble 88 = .ok (.ireturn, 1) := by decide +kernel
theorem dX11_marble_89 : decode cX11_marble 89 = .ok (.aload_n 0, 1) := by decide +kernel
theorem dX11_marble_90 : decode cX11_marble 90 = .ok (.iload_n 1, 1) := by decide +kernel
theorem dX11_marble_91 : decode cX11_marble 91 = .ok (.iload_n 2, 1) := by decide +kernel
theorem dX11_marble_92 : decode cX11_marble 92 = .ok (.invokevirtual 267, 3) := by decide +kernel
theorem dX11_marble_95 : decode cX11_marble 95 = .ok (.ireturn, 1) := by decide +kernel
theorem dX11_farm_0 : decode cX11_farm 0 = .ok (.iload_n 1, 1) := by decide +kernel
theorem dX11_farm_1 : decode cX11_farm 1 = .ok (.iconst 0, 1) := by decide +kernel
theorem dX11_farm_2 : decode cX11_farm 2 = .ok (.aload_n 0, 1) := by decide +kernel
theorem dX11_farm_3 : decode cX11_farm 3 = .ok (.getfield 264, 3) := by decide +kernel
theorem dX11_farm_6 : decode cX11_farm 6 = .ok (.iconst 1, 1) := by decide +kernel
theorem dX11_farm_7 : decode cX11_farm 7 = .ok (.isub, 1) := by decide +kernel
theorem dX11_farm_8 : decode cX11_farm 8 = .ok (.invokestatic 208, 3) := by decide +kernel
theorem dX11_farm_11 : decode cX11_farm 11 = .ok (.ifCond .eq 12, 3) := by decide +kernel
theorem dX11_farm_14 : decode cX11_farm 14 = .ok (.iload_n 2, 1) := by decide +kernel
theorem dX11_farm_15 : decode cX11_farm 15 = .ok (.iconst 0, 1) := by decide +kernel
theorem dX11_farm_16 : decode cX11_farm 16 = .ok (.iconst 3, 1) := by decide +kernel
theorem dX11_farm_17 : decode cX11_farm 17 = .ok (.invokestatic 208, 3) := by decide +kernel
theorem dX11_farm_20 : decode cX11_farm 20 = .ok (.ifCond .ne 7, 3) := by decide +kernel
theorem dX11_farm_23 : decode cX11_farm 23 = .ok (.iconst (-1), 1) := by decide +kernel
theorem dX11_farm_24 : decode cX11_farm 24 = .ok (.goto 30, 3) := by decide +kernel
theorem dX11_farm_27 : decode cX11_farm 27 = .ok (.iload_n 2, 1) := by decide +kernel
theorem dX11_farm_28 : decode cX11_farm 28 = .ok (.iconst 3, 1) := by decide +kernel
theorem dX11_farm_29 : decode cX11_farm 29 = .ok (.if_icmp .ge 12, 3) := by decide +kernel
theorem dX11_farm_32 : decode cX11_farm 32 = .ok (.aload_n 0, 1) := by decide +kernel
theorem dX11_farm_33 : decode cX11_farm 33 = .ok (.iload_n 1, 1) := by decide +kernel
theorem dX11_farm_34 : decode cX11_farm 34 = .ok (.iload_n 2, 1) := by decide +kernel
theorem dX11_farm_35 : decode cX11_farm 35 = .ok (.invokevirtual 316, 3) := by decide +kernel
theorem dX11_farm_38 : decode cX11_farm 38 = .ok (.goto 16, 3) := by decide +kernel
theorem dX11_farm_41 : decode cX11_farm 41 = .ok (.aload_n 0, 1) := by decide +kernel
theorem dX11_farm_42 : decode cX11_farm 42 = .ok (.iload_n 1, 1) := by decide +kernel
theorem dX11_farm_43 : decode cX11_farm 43 = .ok (.invokevirtual 322, 3) := by decide +kernel
theorem dX11_farm_46 : decode cX11_farm 46 = .ok (.ifCond .eq 7, 3) := by decide +kernel
theorem dX11_farm_49 : decode cX11_farm 49 = .ok (.iconst 1, 1) := by decide +kernel
theorem dX11_farm_50 : decode cX11_farm 50 = .ok (.goto 4, 3) := by decide +kernel
theorem dX11_farm_53 : decode cX11_farm 53 = .ok (.iconst 0, 1) := by decide +kernel
theorem dX11_farm_54 : decode cX11_farm 54 = .ok (.ireturn, 1) := by decide +kernel
theorem dX11_law_0 : decode cX11_law 0 = .ok (.iload_n 1, 1) := by decide +kernel
theorem dX11_law_1 : decode cX11_law 1 = .ok (.iconst (-1), 1) := by decide +kernel
theorem dX11_law_2 : decode cX11_law 2 = .ok (.aload_n 0, 1) := by decide +kernel
theorem dX11_law_3 : decode cX11_law 3 = .ok (.getfield 283, 3) := by decide +kernel
theorem dX11_law_6 : decode cX11_law 6 = .ok (.iconst 1, 1) := by decide +kernel
theorem dX11_law_7 : decode cX11_law 7 = .ok (.isub, 1) := by decide +kernel
theorem dX11_law_8 : decode cX11_law 8 = .ok (.invokestatic 208, 3) := by decide +kernel
theorem dX11_law_11 : decode cX11_law 11 = .ok (.ifCond .ne 5, 3) := by decide +kernel
theorem dX11_law_14 : decode cX11_law 14 = .ok (.iconst 0, 1) := by decide +kernel
theorem dX11_law_15 : decode cX11_law 15 = .ok (.ireturn, 1) := by decide +kernel
theorem dX11_law_16 : decode cX11_law 16 = .ok (.aload_n 0, 1) := by decide +kernel
theorem dX11_law_17 : decode cX11_law 17 = .ok (.iload_n 1, 1) := by decide +kernel
theorem dX11_law_18 : decode cX11_law 18 = .ok (.putfield 70, 3) := by decide +kernel
theorem dX11_law_21 : decode cX11_law 21 = .ok (.iconst 1, 1) := by decide +kernel
theorem dX11_law_22 : decode cX11_law 22 = .ok (.ireturn, 1) := by decide +kernel
theorem dX11_keep_0 : decode cX11_keep 0 = .ok (.aload_n 0, 1) := by decide +kernel
theorem dX11_keep_1 : decode cX11_keep 1 = .ok (.getfield 273, 3) := by decide +kernel
theorem dX11_keep_4 : decode cX11_keep 4 = .ok (.bipush 40, 2) := by decide +kernel
theorem dX11_keep_6 : decode cX11_keep 6 = .ok (.if_icmp .ne 46, 3) := by decide +kernel
theorem dX11_keep_9 : decode cX11_keep 9 = .ok (.sipush 131, 3) := by decide +kernel
theorem dX11_keep_12 : decode cX11_keep 12 = .ok (.istore_n 1, 1) := by decide +kernel
theorem dX11_keep_13 : decode cX11_keep 13 = .ok (.iload_n 1, 1) := by decide +kernel
theorem dX11_keep_14 : decode cX11_keep 14 = .ok (.sipush 5240, 3) := by decide +kernel
theorem dX11_keep_17 : decode cX11_keep 17 = .ok (.if_icmp .ge 25, 3) := by decide +kernel
theorem dX11_keep_20 : decode cX11_keep 20 = .ok (.aload_n 0, 1) := by decide +kernel
theorem dX11_keep_21 : decode cX11_keep 21 = .ok (.getfield 74, 3) := by decide +kernel
theorem dX11_keep_24 : decode cX11_keep 24 = .ok (.iload_n 1, 1) := by decide +kernel
theorem dX11_keep_25 : decode cX11_keep 25 = .ok (.sipush 131, 3) := by decide +kernel
theorem dX11_keep_28 : decode cX11_keep 28 = .ok (.isub, 1) := by decide +kernel
theorem dX11_keep_29 : decode cX11_keep 29 = .ok (.aload_n 0, 1) := by decide +kernel
theorem dX11_keep_30 : decode cX11_keep 30 = .ok (.getfield 74, 3) := by decide +kernel
theorem dX11_keep_33 : decode cX11_keep 33 = .ok (.iload_n 1, 1) := by decide +kernel
theorem dX11_keep_34 : decode cX11_keep 34 = .ok (.iaload, 1) := by decide +kernel
theorem dX11_keep_35 : decode cX11_keep 35 = .ok (.iastore, 1) := by decide +kernel
theorem dX11_keep_36 : decode cX11_keep 36 = .ok (.iinc 1 1, 3) := by decide +kernel
theorem dX11_keep_39 : decode cX11_keep 39 = .ok (.goto (-26), 3) := by decide +kernel
theorem dX11_keep_42 : decode cX11_keep 42 = .ok (.aload_n 0, 1) := by decide +kernel
theorem dX11_keep_43 : decode cX11_keep 43 = .ok (.dup, 1) := by decide +kernel
theorem dX11_keep_44 : decode cX11_keep 44 = .ok (.getfield 273, 3) := by decide +kernel
theorem dX11_keep_47 : decode cX11_keep 47 = .ok (.iconst 1, 1) := by decide +kernel
theorem dX11_keep_48 : decode cX11_keep 48 = .ok (.isub, 1) := by decide +kernel
theorem dX11_keep_49 : decode cX11_keep 49 = .ok (.putfield 273, 3) := by decide +kernel
theorem dX11_keep_52 : decode cX11_keep 52 = .ok (.iconst 0, 1) := by decide +kernel
theorem dX11_keep_53 : decode cX11_keep 53 = .ok (.istore_n 1, 1) := by decide +kernel
theorem dX11_keep_54 : decode cX11_keep 54 = .ok (.iload_n 1, 1) := by decide +kernel
theorem dX11_keep_55 : decode cX11_keep 55 = .ok (.sipush 131, 3) := by decide +kernel
theorem dX11_keep_58 : decode cX11_keep 58 = .ok (.if_icmp .ge 30, 3) := by decide +kernel
theorem dX11_keep_61 : decode cX11_keep 61 = .ok (.aload_n 0, 1) := by decide +kernel
theorem dX11_keep_62 : decode cX11_keep 62 = .ok (.getfield 74, 3) := by decide +kernel
theorem dX11_keep_65 : decode cX11_keep 65 = .ok (.sipush 131, 3) := by decide +kernel
theorem dX11_keep_68 : decode cX11_keep 68 = .ok (.aload_n 0, 1) := by decide +kernel
theorem dX11_keep_69 : decode cX11_keep 69 = .ok (.getfield 273, 3) := by decide +kernel
theorem dX11_keep_72 : decode cX11_keep 72 = .ok (.imul, 1) := by decide +kernel
theorem dX11_keep_73 : decode cX11_keep 73 = .ok (.iload_n 1, 1) := by decide +kernel
theorem dX11_keep_74 : decode cX11_keep 74 = .ok (.iadd, 1) := by decide +kernel
theorem dX11_keep_75 : decode cX11_keep 75 = .ok (.aload_n 0, 1) := by decide +kernel
theorem dX11_keep_76 : decode cX11_keep 76 = .ok (.getfield 64, 3) := by decide +kernel
theorem dX11_keep_79 : decode cX11_keep 79 = .ok (.iload_n 1, 1) := by decide +kernel
theorem dX11_keep_80 : decode cX11_keep 80 = .ok (.iaload, 1) := by decide +kernel
theorem dX11_keep_81 : decode cX11_keep 81 = .ok (.iastore, 1) := by decide +kernel
theorem dX11_keep_82 : decode cX11_keep 82 = .ok (.iinc 1 1, 3) := by decide +kernel
theorem dX11_keep_85 : decode cX11_keep 85 = .ok (.goto (-31), 3) := by decide +kernel
theorem dX11_keep_88 : decode cX11_keep 88 = .ok (.aload_n 0, 1) := by decide +kernel
theorem dX11_keep_89 : decode cX11_keep 89 = .ok (.dup, 1) := by decide +kernel
theorem dX11_keep_90 : decode cX11_keep 90 = .ok (.getfield 273, 3) := by decide +kernel
theorem dX11_keep_93 : decode cX11_keep 93 = .ok (.iconst 1, 1) := by decide +kernel
theorem dX11_keep_94 : decode cX11_keep 94 = .ok (.iadd, 1) := by decide +kernel
theorem dX11_keep_95 : decode cX11_keep 95 = .ok (.putfield 273, 3) := by decide +kernel
theorem dX11_keep_98 : decode cX11_keep 98 = .ok (.return_, 1) := by decide +kernel
theorem dX11_isRefused_0 : decode cX11_isRefused 0 = .ok (.iload_n 1, 1) := by decide +kernel
theorem dX11_isRefused_1 : decode cX11_isRefused 1 = .ok (.iconst (-1), 1) := by decide +kernel
theorem dX11_isRefused_2 : decode cX11_isRefused 2 = .ok (.if_icmp .eq 13, 3) := by decide +kernel
theorem dX11_isRefused_5 : decode cX11_isRefused 5 = .ok (.aload_n 0, 1) := by decide +kernel
theorem dX11_isRefused_6 : decode cX11_isRefused 6 = .ok (.getfield 67, 3) := by decide +kernel
theorem dX11_isRefused_9 : decode cX11_isRefused 9 = .ok (.iload_n 1, 1) := by decide +kernel
theorem dX11_isRefused_10 : decode cX11_isRefused 10 = .ok (.dup2, 1) := by decide +kernel
theorem dX11_isRefused_11 : decode cX11_isRefused 11 = .ok (.iaload, 1) := by decide +kernel
theorem dX11_isRefused_12 : decode cX11_isRefused 12 = .ok (.iconst 1, 1) := by decide +kernel
theorem dX11_isRefused_13 : decode cX11_isRefused 13 = .ok (.iadd, 1) := by decide +kernel
theorem dX11_isRefused_14 : decode cX11_isRefused 14 = .ok (.iastore, 1) := by decide +kernel
theorem dX11_isRefused_15 : decode cX11_isRefused 15 = .ok (.iload_n 1, 1) := by decide +kernel
theorem dX11_isRefused_16 : decode cX11_isRefused 16 = .ok (.iconst (-1), 1) := by decide +kernel
theorem dX11_isRefused_17 : decode cX11_isRefused 17 = .ok (.if_icmp .eq 7, 3) := by decide +kernel
theorem dX11_isRefused_20 : decode cX11_isRefused 20 = .ok (.iconst 1, 1) := by decide +kernel
theorem dX11_isRefused_21 : decode cX11_isRefused 21 = .ok (.goto 4, 3) := by decide +kernel
theorem dX11_isRefused_24 : decode cX11_isRefused 24 = .ok (.iconst 0, 1) := by decide +kernel
theorem dX11_isRefused_25 : decode cX11_isRefused 25 = .ok (.ireturn, 1) := by decide +kernel
theorem dX11_whyNot_0 : decode cX11_whyNot 0 = .ok (.aload_n 0, 1) := by decide +kernel
theorem dX11_whyNot_1 : decode cX11_whyNot 1 = .ok (.iload_n 1, 1) := by decide +kernel
theorem dX11_whyNot_2 : decode cX11_whyNot 2 = .ok (.invokevirtual 328, 3) := by decide +kernel
theorem dX11_whyNot_5 : decode cX11_whyNot 5 = .ok (.ifCond .eq 11, 3) := by decide +kernel
theorem dX11_whyNot_8 : decode cX11_whyNot 8 = .ok (.aload_n 0, 1) := by decide +kernel
theorem dX11_whyNot_9 : decode cX11_whyNot 9 = .ok (.iload_n 2, 1) := by decide +kernel
theorem dX11_whyNot_10 : decode cX11_whyNot 10 = .ok (.invokevirtual 328, 3) := by decide +kernel
theorem dX11_whyNot_13 : decode cX11_whyNot 13 = .ok (.ifCond .ne 5, 3) := by decide +kernel
theorem dX11_whyNot_16 : decode cX11_whyNot 16 = .ok (.iconst 0, 1) := by decide +kernel
theorem dX11_whyNot_17 : decode cX11_whyNot 17 = .ok (.ireturn, 1) := by decide +kernel
theorem dX11_whyNot_18 : decode cX11_whyNot 18 = .ok (.iload_n 1, 1) := by decide +kernel
theorem dX11_whyNot_19 : decode cX11_whyNot 19 = .ok (.iload_n 2, 1) := by decide +kernel
theorem dX11_whyNot_20 : decode cX11_whyNot 20 = .ok (.if_icmp .ne 7, 3) := by decide +kernel
theorem dX11_whyNot_23 : decode cX11_whyNot 23 = .ok (.iconst 1, 1) := by decide +kernel
theorem dX11_whyNot_24 : decode cX11_whyNot 24 = .ok (.goto 43, 3) := by decide +kernel
theorem dX11_whyNot_27 : decode cX11_whyNot 27 = .ok (.aload_n 0, 1) := by decide +kernel
theorem dX11_whyNot_28 : decode cX11_whyNot 28 = .ok (.iload_n 1, 1) := by decide +kernel
theorem dX11_whyNot_29 : decode cX11_whyNot 29 = .ok (.invokevirtual 332, 3) := by decide +kernel
theorem dX11_whyNot_32 : decode cX11_whyNot 32 = .ok (.ifCond .eq 30, 3) := by decide +kernel
theorem dX11_whyNot_35 : decode cX11_whyNot 35 = .ok (.aload_n 0, 1) := by decide +kernel
theorem dX11_whyNot_36 : decode cX11_whyNot 36 = .ok (.iload_n 2, 1) := by decide +kernel
theorem dX11_whyNot_37 : decode cX11_whyNot 37 = .ok (.invokevirtual 332, 3) := by decide +kernel
theorem dX11_whyNot_40 : decode cX11_whyNot 40 = .ok (.ifCond .eq 22, 3) := by decide +kernel
theorem dX11_whyNot_43 : decode cX11_whyNot 43 = .ok (.aload_n 0, 1) := by decide +kernel
theorem dX11_whyNot_44 : decode cX11_whyNot 44 = .ok (.getfield 64, 3) := by decide +kernel
theorem dX11_whyNot_47 : decode cX11_whyNot 47 = .ok (.iconst 0, 1) := by decide +kernel
theorem dX11_whyNot_48 : decode cX11_whyNot 48 = .ok (.iload_n 1, 1) := by decide +kernel
theorem dX11_whyNot_49 : decode cX11_whyNot 49 = .ok (.iadd, 1) := by decide +kernel
theorem dX11_whyNot_50 : decode cX11_whyNot 50 = .ok (.iaload, 1) := by decide +kernel
theorem dX11_whyNot_51 : decode cX11_whyNot 51 = .ok (.aload_n 0, 1) := by decide +kernel
theorem dX11_whyNot_52 : decode cX11_whyNot 52 = .ok (.getfield 64, 3) := by decide +kernel
theorem dX11_whyNot_55 : decode cX11_whyNot 55 = .ok (.iconst 0, 1) := by decide +kernel
theorem dX11_whyNot_56 : decode cX11_whyNot 56 = .ok (.iload_n 2, 1) := by decide +kernel
theorem dX11_whyNot_57 : decode cX11_whyNot 57 = .ok (.iadd, 1) := by decide +kernel
theorem dX11_whyNot_58 : decode cX11_whyNot 58 = .ok (.iaload, 1) := by decide +kernel
theorem dX11_whyNot_59 : decode cX11_whyNot 59 = .ok (.if_icmp .ne 7, 3) := by decide +kernel
theorem dX11_whyNot_62 : decode cX11_whyNot 62 = .ok (.iconst 2, 1) := by decide +kernel
theorem dX11_whyNot_63 : decode cX11_whyNot 63 = .ok (.goto 4, 3) := by decide +kernel
theorem dX11_whyNot_66 : decode cX11_whyNot 66 = .ok (.iconst (-1), 1) := by decide +kernel
theorem dX11_whyNot_67 : decode cX11_whyNot 67 = .ok (.ireturn, 1) := by decide +kernel
theorem dX11_whyNotPlay_0 : decode cX11_whyNotPlay 0 = .ok (.aload_n 0, 1) := by decide +kernel
theorem dX11_whyNotPlay_1 : decode cX11_whyNotPlay 1 = .ok (.iload_n 1, 1) := by decide +kernel
theorem dX11_whyNotPlay_2 : decode cX11_whyNotPlay 2 = .ok (.iload_n 3, 1) := by decide +kernel
theorem dX11_whyNotPlay_3 : decode cX11_whyNotPlay 3 = .ok (.invokevirtual 335, 3) := by decide +kernel
theorem dX11_whyNotPlay_6 : decode cX11_whyNotPlay 6 = .ok (.istore 5, 2) := by decide +kernel
theorem dX11_whyNotPlay_8 : decode cX11_whyNotPlay 8 = .ok (.iload 5, 2) := by decide +kernel
theorem dX11_whyNotPlay_10 : decode cX11_whyNotPlay 10 = .ok (.ifCond .ne 7, 3) := by decide +kernel
theorem dX11_whyNotPlay_13 : decode cX11_whyNotPlay 13 = .ok (.iconst 0, 1) := by decide +kernel
theorem dX11_whyNotPlay_14 : decode cX11_whyNotPlay 14 = .ok (.goto 24, 3) := by decide +kernel
theorem dX11_whyNotPlay_17 : decode cX11_whyNotPlay 17 = .ok (.iload_n 2, 1) := by decide +kernel
theorem dX11_whyNotPlay_18 : decode cX11_whyNotPlay 18 = .ok (.invokestatic 338, 3) := by decide +kernel
theorem dX11_whyNotPlay_21 : decode cX11_whyNotPlay 21 = .ok (.ifCond .eq 11, 3) := by decide +kernel
theorem dX11_whyNotPlay_24 : decode cX11_whyNotPlay 24 = .ok (.iload 4, 2) := by decide +kernel
theorem dX11_whyNotPlay_26 : decode cX11_whyNotPlay 26 = .ok (.invokestatic 338, 3) := by decide +kernel
theorem dX11_whyNotPlay_29 : decode cX11_whyNotPlay 29 = .ok (.ifCond .ne 7, 3) := by decide +kernel
theorem dX11_whyNotPlay_32 : decode cX11_whyNotPlay 32 = .ok (.iconst 1, 1) := by decide +kernel
theorem dX11_whyNotPlay_33 : decode cX11_whyNotPlay 33 = .ok (.goto 5, 3) := by decide +kernel
theorem dX11_whyNotPlay_36 : decode cX11_whyNotPlay 36 = .ok (.iload 5, 2) := by decide +kernel
theorem dX11_whyNotPlay_38 : decode cX11_whyNotPlay 38 = .ok (.ireturn, 1) := by decide +kernel
theorem dX11_cellOf_0 : decode cX11_cellOf 0 = .ok (.aload_n 0, 1) := by decide +kernel
theorem dX11_cellOf_1 : decode cX11_cellOf 1 = .ok (.aload_n 0, 1) := by decide +kernel
theorem dX11_cellOf_2 : decode cX11_cellOf 2 = .ok (.getfield 64, 3) := by decide +kernel
theorem dX11_cellOf_5 : decode cX11_cellOf 5 = .ok (.iconst 0, 1) := by decide +kernel
theorem dX11_cellOf_6 : decode cX11_cellOf 6 = .ok (.iload_n 1, 1) := by decide +kernel
theorem dX11_cellOf_7 : decode cX11_cellOf 7 = .ok (.iadd, 1) := by decide +kernel
theorem dX11_cellOf_8 : decode cX11_cellOf 8 = .ok (.iaload, 1) := by decide +kernel
theorem dX11_cellOf_9 : decode cX11_cellOf 9 = .ok (.iload_n 1, 1) := by decide +kernel
theorem dX11_cellOf_10 : decode cX11_cellOf 10 = .ok (.iload_n 2, 1) := by decide +kernel
theorem dX11_cellOf_11 : decode cX11_cellOf 11 = .ok (.invokevirtual 341, 3) := by decide +kernel
theorem dX11_cellOf_14 : decode cX11_cellOf 14 = .ok (.ireturn, 1) := by decide +kernel
theorem dX11_playNow_0 : decode cX11_playNow 0 = .ok (.aload_n 0, 1) := by decide +kernel
theorem dX11_playNow_1 : decode cX11_playNow 1 = .ok (.iload_n 1, 1) := by decide +kernel
theorem dX11_playNow_2 : decode cX11_playNow 2 = .ok (.iload_n 2, 1) := by decide +kernel
theorem dX11_playNow_3 : decode cX11_playNow 3 = .ok (.invokevirtual 344, 3) := by decide +kernel
theorem dX11_playNow_6 : decode cX11_playNow 6 = .ok (.istore 5, 2) := by decide +kernel
theorem dX11_playNow_8 : decode cX11_playNow 8 = .ok (.aload_n 0, 1) := by decide +kernel
theorem dX11_playNow_9 : decode cX11_playNow 9 = .ok (.iload_n 3, 1) := by decide +kernel
theorem dX11_playNow_10 : decode cX11_playNow 10 = .ok (.iload 4, 2) := by decide +kernel
theorem dX11_playNow_12 : decode cX11_playNow 12 = .ok (.invokevirtual 344, 3) := by decide +kernel
theorem dX11_playNow_15 : decode cX11_playNow 15 = .ok (.istore 6, 2) := by decide +kernel
theorem dX11_playNow_17 : decode cX11_playNow 17 = .ok (.aload_n 0, 1) := by decide +kernel
theorem dX11_playNow_18 : decode cX11_playNow 18 = .ok (.iload 5, 2) := by decide +kernel
theorem dX11_playNow_20 : decode cX11_playNow 20 = .ok (.iload 6, 2) := by decide +kernel
theorem dX11_playNow_22 : decode cX11_playNow 22 = .ok (.invokevirtual 347, 3) := by decide +kernel
theorem dX11_playNow_25 : decode cX11_playNow 25 = .ok (.istore 7, 2) := by decide +kernel
theorem dX11_playNow_27 : decode cX11_playNow 27 = .ok (.iload 7, 2) := by decide +kernel
theorem dX11_playNow_29 : decode cX11_playNow 29 = .ok (.iconst 1, 1) := by decide +kernel
theorem dX11_playNow_30 : decode cX11_playNow 30 = .ok (.if_icmp .ne 19, 3) := by decide +kernel
theorem dX11_playNow_33 : decode cX11_playNow 33 = .ok (.aload_n 0, 1) := by decide +kernel
theorem dX11_playNow_34 : decode cX11_playNow 34 = .ok (.getfield 64, 3) := by decide +kernel
theorem dX11_playNow_37 : decode cX11_playNow 37 = .ok (.iconst 0, 1) := by decide +kernel
theorem dX11_playNow_38 : decode cX11_playNow 38 = .ok (.iload_n 3, 1) := by decide +kernel
theorem dX11_playNow_39 : decode cX11_playNow 39 = .ok (.iadd, 1) := by decide +kernel
theorem dX11_playNow_40 : decode cX11_playNow 40 = .ok (.aload_n 0, 1) := by decide +kernel
theorem dX11_playNow_41 : decode cX11_playNow 41 = .ok (.getfield 64, 3) := by decide +kernel
theorem dX11_playNow_44 : decode cX11_playNow 44 = .ok (.iconst 0, 1) := by decide +kernel
theorem dX11_playNow_45 : decode cX11_playNow 45 = .ok (.iload_n 1, 1) := by decide +kernel
theorem dX11_playNow_46 : decode cX11_playNow 46 = .ok (.iadd, 1) := by decide +kernel
theorem dX11_playNow_47 : decode cX11_playNow 47 = .ok (.iaload, 1) := by decide +kernel
theorem dX11_playNow_48 : decode cX11_playNow 48 = .ok (.iastore, 1) := by decide +kernel
theorem dX11_playNow_49 : decode cX11_playNow 49 = .ok (.iload 7, 2) := by decide +kernel
theorem dX11_playNow_51 : decode cX11_playNow 51 = .ok (.iconst 2, 1) := by decide +kernel
theorem dX11_playNow_52 : decode cX11_playNow 52 = .ok (.if_icmp .ne 19, 3) := by decide +kernel
theorem dX11_playNow_55 : decode cX11_playNow 55 = .ok (.aload_n 0, 1) := by decide +kernel
theorem dX11_playNow_56 : decode cX11_playNow 56 = .ok (.getfield 64, 3) := by decide +kernel
theorem dX11_playNow_59 : decode cX11_playNow 59 = .ok (.iconst 0, 1) := by decide +kernel
theorem dX11_playNow_60 : decode cX11_playNow 60 = .ok (.iload_n 1, 1) := by decide +kernel
theorem dX11_playNow_61 : decode cX11_playNow 61 = .ok (.iadd, 1) := by decide +kernel
theorem dX11_playNow_62 : decode cX11_playNow 62 = .ok (.aload_n 0, 1) := by decide +kernel
theorem dX11_playNow_63 : decode cX11_playNow 63 = .ok (.getfield 64, 3) := by decide +kernel
theorem dX11_playNow_66 : decode cX11_playNow 66 = .ok (.iconst 0, 1) := by decide +kernel
theorem dX11_playNow_67 : decode cX11_playNow 67 = .ok (.iload_n 3, 1) := by decide +kernel
theorem dX11_playNow_68 : decode cX11_playNow 68 = .ok (.iadd, 1) := by decide +kernel
theorem dX11_playNow_69 : decode cX11_playNow 69 = .ok (.iaload, 1) := by decide +kernel
theorem dX11_playNow_70 : decode cX11_playNow 70 = .ok (.iastore, 1) := by decide +kernel
theorem dX11_playNow_71 : decode cX11_playNow 71 = .ok (.aload_n 0, 1) := by decide +kernel
theorem dX11_playNow_72 : decode cX11_playNow 72 = .ok (.getfield 64, 3) := by decide +kernel
theorem dX11_playNow_75 : decode cX11_playNow 75 = .ok (.iconst 0, 1) := by decide +kernel
theorem dX11_playNow_76 : decode cX11_playNow 76 = .ok (.iload_n 1, 1) := by decide +kernel
theorem dX11_playNow_77 : decode cX11_playNow 77 = .ok (.iadd, 1) := by decide +kernel
theorem dX11_playNow_78 : decode cX11_playNow 78 = .ok (.aload_n 0, 1) := by decide +kernel
theorem dX11_playNow_79 : decode cX11_playNow 79 = .ok (.iload 5, 2) := by decide +kernel
theorem dX11_playNow_81 : decode cX11_playNow 81 = .ok (.invokevirtual 304, 3) := by decide +kernel
theorem dX11_playNow_84 : decode cX11_playNow 84 = .ok (.ifCond .eq 7, 3) := by decide +kernel
theorem dX11_playNow_87 : decode cX11_playNow 87 = .ok (.iconst (-1), 1) := by decide +kernel
theorem dX11_playNow_88 : decode cX11_playNow 88 = .ok (.goto 11, 3) := by decide +kernel
theorem dX11_playNow_91 : decode cX11_playNow 91 = .ok (.aload_n 0, 1) := by decide +kernel
theorem dX11_playNow_92 : decode cX11_playNow 92 = .ok (.getfield 64, 3) := by decide +kernel
theorem dX11_playNow_95 : decode cX11_playNow 95 = .ok (.iconst 0, 1) := by decide +kernel
theorem dX11_playNow_96 : decode cX11_playNow 96 = .ok (.iload_n 1, 1) := by decide +kernel
theorem dX11_playNow_97 : decode cX11_playNow 97 = .ok (.iadd, 1) := by decide +kernel
theorem dX11_playNow_98 : decode cX11_playNow 98 = .ok (.iaload, 1) := by decide +kernel
theorem dX11_playNow_99 : decode cX11_playNow 99 = .ok (.iastore, 1) := by decide +kernel
theorem dX11_playNow_100 : decode cX11_playNow 100 = .ok (.aload_n 0, 1) := by decide +kernel
theorem dX11_playNow_101 : decode cX11_playNow 101 = .ok (.getfield 64, 3) := by decide +kernel
theorem dX11_playNow_104 : decode cX11_playNow 104 = .ok (.iconst 0, 1) := by decide +kernel
theorem dX11_playNow_105 : decode cX11_playNow 105 = .ok (.iload_n 3, 1) := by decide +kernel
theorem dX11_playNow_106 : decode cX11_playNow 106 = .ok (.iadd, 1) := by decide +kernel
theorem dX11_playNow_107 : decode cX11_playNow 107 = .ok (.aload_n 0, 1) := by decide +kernel
theorem dX11_playNow_108 : decode cX11_playNow 108 = .ok (.iload 6, 2) := by decide +kernel
theorem dX11_playNow_110 : decode cX11_playNow 110 = .ok (.invokevirtual 304, 3) := by decide +kernel
theorem dX11_playNow_113 : decode cX11_playNow 113 = .ok (.ifCond .eq 7, 3) := by decide +kernel
theorem dX11_playNow_116 : decode cX11_playNow 116 = .ok (.iconst (-1), 1) := by decide +kernel
theorem dX11_playNow_117 : decode cX11_playNow 117 = .ok (.goto 11, 3) := by decide +kernel
theorem dX11_playNow_120 : decode cX11_playNow 120 = .ok (.aload_n 0, 1) := by decide +kernel
theorem dX11_playNow_121 : decode cX11_playNow 121 = .ok (.getfield 64, 3) := by decide +kernel
theorem dX11_playNow_124 : decode cX11_playNow 124 = .ok (.iconst 0, 1) := by decide +kernel
theorem dX11_playNow_125 : decode cX11_playNow 125 = .ok (.iload_n 3, 1) := by decide +kernel
theorem dX11_playNow_126 : decode cX11_playNow 126 = .ok (.iadd, 1) := by decide +kernel
theorem dX11_playNow_127 : decode cX11_playNow 127 = .ok (.iaload, 1) := by decide +kernel
theorem dX11_playNow_128 : decode cX11_playNow 128 = .ok (.iastore, 1) := by decide +kernel
theorem dX11_playNow_129 : decode cX11_playNow 129 = .ok (.iload 7, 2) := by decide +kernel
theorem dX11_playNow_131 : decode cX11_playNow 131 = .ok (.ireturn, 1) := by decide +kernel
theorem dX11_play_0 : decode cX11_play 0 = .ok (.aload_n 0, 1) := by decide +kernel
theorem dX11_play_1 : decode cX11_play 1 = .ok (.aload_n 0, 1) := by decide +kernel
theorem dX11_play_2 : decode cX11_play 2 = .ok (.iload_n 1, 1) := by decide +kernel
theorem dX11_play_3 : decode cX11_play 3 = .ok (.iload_n 2, 1) := by decide +kernel
theorem dX11_play_4 : decode cX11_play 4 = .ok (.iload_n 3, 1) := by decide +kernel
theorem dX11_play_5 : decode cX11_play 5 = .ok (.iload 4, 2) := by decide +kernel
theorem dX11_play_7 : decode cX11_play 7 = .ok (.invokevirtual 350, 3) := by decide +kernel
theorem dX11_play_10 : decode cX11_play 10 = .ok (.invokevirtual 354, 3) := by decide +kernel
theorem dX11_play_13 : decode cX11_play 13 = .ok (.ifCond .eq 5, 3) := by decide +kernel
theorem dX11_play_16 : decode cX11_play 16 = .ok (.iconst (-1), 1) := by decide +kernel
theorem dX11_play_17 : decode cX11_play 17 = .ok (.ireturn, 1) := by decide +kernel
theorem dX11_play_18 : decode cX11_play 18 = .ok (.aload_n 0, 1) := by decide +kernel
theorem dX11_play_19 : decode cX11_play 19 = .ok (.invokevirtual 357, 3) := by decide +kernel
theorem dX11_play_22 : decode cX11_play 22 = .ok (.aload_n 0, 1) := by decide +kernel
theorem dX11_play_23 : decode cX11_play 23 = .ok (.iload_n 1, 1) := by decide +kernel
theorem dX11_play_24 : decode cX11_play 24 = .ok (.iload_n 2, 1) := by decide +kernel
theorem dX11_play_25 : decode cX11_play 25 = .ok (.iload_n 3, 1) := by decide +kernel
theorem dX11_play_26 : decode cX11_play 26 = .ok (.iload 4, 2) := by decide +kernel
theorem dX11_play_28 : decode cX11_play 28 = .ok (.invokevirtual 360, 3) := by decide +kernel
theorem dX11_play_31 : decode cX11_play 31 = .ok (.ireturn, 1) := by decide +kernel
theorem dX11_swapNow_0 : decode cX11_swapNow 0 = .ok (.aload_n 0, 1) := by decide +kernel
theorem dX11_swapNow_1 : decode cX11_swapNow 1 = .ok (.getfield 64, 3) := by decide +kernel
theorem dX11_swapNow_4 : decode cX11_swapNow 4 = .ok (.iconst 0, 1) := by decide +kernel
theorem dX11_swapNow_5 : decode cX11_swapNow 5 = .ok (.iload_n 1, 1) := by decide +kernel
theorem dX11_swapNow_6 : decode cX11_swapNow 6 = .ok (.iadd, 1) := by decide +kernel
theorem dX11_swapNow_7 : decode cX11_swapNow 7 = .ok (.iaload, 1) := by decide +kernel
theorem dX11_swapNow_8 : decode cX11_swapNow 8 = .ok (.istore_n 3, 1) := by decide +kernel
theorem dX11_swapNow_9 : decode cX11_swapNow 9 = .ok (.aload_n 0, 1) := by decide +kernel
theorem dX11_swapNow_10 : decode cX11_swapNow 10 = .ok (.getfield 64, 3) := by decide +kernel
theorem dX11_swapNow_13 : decode cX11_swapNow 13 = .ok (.iconst 0, 1) := by decide +kernel
theorem dX11_swapNow_14 : decode cX11_swapNow 14 = .ok (.iload_n 1, 1) := by decide +kernel
theorem dX11_swapNow_15 : decode cX11_swapNow 15 = .ok (.iadd, 1) := by decide +kernel
theorem dX11_swapNow_16 : decode cX11_swapNow 16 = .ok (.aload_n 0, 1) := by decide +kernel
theorem dX11_swapNow_17 : decode cX11_swapNow 17 = .ok (.getfield 64, 3) := by decide +kernel
theorem dX11_swapNow_20 : decode cX11_swapNow 20 = .ok (.iconst 0, 1) := by decide +kernel
theorem dX11_swapNow_21 : decode cX11_swapNow 21 = .ok (.iload_n 2, 1) := by decide +kernel
theorem dX11_swapNow_22 : decode cX11_swapNow 22 = .ok (.iadd, 1) := by decide +kernel
theorem dX11_swapNow_23 : decode cX11_swapNow 23 = .ok (.iaload, 1) := by decide +kernel
theorem dX11_swapNow_24 : decode cX11_swapNow 24 = .ok (.iastore, 1) := by decide +kernel
theorem dX11_swapNow_25 : decode cX11_swapNow 25 = .ok (.aload_n 0, 1) := by decide +kernel
theorem dX11_swapNow_26 : decode cX11_swapNow 26 = .ok (.getfield 64, 3) := by decide +kernel
theorem dX11_swapNow_29 : decode cX11_swapNow 29 = .ok (.iconst 0, 1) := by decide +kernel
theorem dX11_swapNow_30 : decode cX11_swapNow 30 = .ok (.iload_n 2, 1) := by decide +kernel
theorem dX11_swapNow_31 : decode cX11_swapNow 31 = .ok (.iadd, 1) := by decide +kernel
theorem dX11_swapNow_32 : decode cX11_swapNow 32 = .ok (.iload_n 3, 1) := by decide +kernel
theorem dX11_swapNow_33 : decode cX11_swapNow 33 = .ok (.iastore, 1) := by decide +kernel
theorem dX11_swapNow_34 : decode cX11_swapNow 34 = .ok (.return_, 1) := by decide +kernel
theorem dX11_swap_0 : decode cX11_swap 0 = .ok (.aload_n 0, 1) := by decide +kernel
theorem dX11_swap_1 : decode cX11_swap 1 = .ok (.aload_n 0, 1) := by decide +kernel
theorem dX11_swap_2 : decode cX11_swap 2 = .ok (.iload_n 1, 1) := by decide +kernel
theorem dX11_swap_3 : decode cX11_swap 3 = .ok (.iload_n 2, 1) := by decide +kernel
theorem dX11_swap_4 : decode cX11_swap 4 = .ok (.invokevirtual 335, 3) := by decide +kernel
theorem dX11_swap_7 : decode cX11_swap 7 = .ok (.invokevirtual 354, 3) := by decide +kernel
theorem dX11_swap_10 : decode cX11_swap 10 = .ok (.ifCond .eq 5, 3) := by decide +kernel
theorem dX11_swap_13 : decode cX11_swap 13 = .ok (.iconst (-1), 1) := by decide +kernel
theorem dX11_swap_14 : decode cX11_swap 14 = .ok (.ireturn, 1) := by decide +kernel
theorem dX11_swap_15 : decode cX11_swap 15 = .ok (.aload_n 0, 1) := by decide +kernel
theorem dX11_swap_16 : decode cX11_swap 16 = .ok (.invokevirtual 357, 3) := by decide +kernel
theorem dX11_swap_19 : decode cX11_swap 19 = .ok (.aload_n 0, 1) := by decide +kernel
theorem dX11_swap_20 : decode cX11_swap 20 = .ok (.iload_n 1, 1) := by decide +kernel
theorem dX11_swap_21 : decode cX11_swap 21 = .ok (.iload_n 2, 1) := by decide +kernel
theorem dX11_swap_22 : decode cX11_swap 22 = .ok (.invokevirtual 363, 3) := by decide +kernel
theorem dX11_swap_25 : decode cX11_swap 25 = .ok (.aload_n 0, 1) := by decide +kernel
theorem dX11_swap_26 : decode cX11_swap 26 = .ok (.getfield 64, 3) := by decide +kernel
theorem dX11_swap_29 : decode cX11_swap 29 = .ok (.iconst 0, 1) := by decide +kernel
theorem dX11_swap_30 : decode cX11_swap 30 = .ok (.iload_n 1, 1) := by decide +kernel
theorem dX11_swap_31 : decode cX11_swap 31 = .ok (.iadd, 1) := by decide +kernel
theorem dX11_swap_32 : decode cX11_swap 32 = .ok (.iaload, 1) := by decide +kernel
theorem dX11_swap_33 : decode cX11_swap 33 = .ok (.ireturn, 1) := by decide +kernel
theorem dX11_give_0 : decode cX11_give 0 = .ok (.aload_n 0, 1) := by decide +kernel
theorem dX11_give_1 : decode cX11_give 1 = .ok (.aload_n 0, 1) := by decide +kernel
theorem dX11_give_2 : decode cX11_give 2 = .ok (.iload_n 1, 1) := by decide +kernel
theorem dX11_give_3 : decode cX11_give 3 = .ok (.invokevirtual 328, 3) := by decide +kernel
theorem dX11_give_6 : decode cX11_give 6 = .ok (.ifCond .eq 11, 3) := by decide +kernel
theorem dX11_give_9 : decode cX11_give 9 = .ok (.aload_n 0, 1) := by decide +kernel
theorem dX11_give_10 : decode cX11_give 10 = .ok (.iload_n 2, 1) := by decide +kernel
theorem dX11_give_11 : decode cX11_give 11 = .ok (.invokevirtual 325, 3) := by decide +kernel
theorem dX11_give_14 : decode cX11_give 14 = .ok (.ifCond .ne 7, 3) := by decide +kernel
theorem dX11_give_17 : decode cX11_give 17 = .ok (.iconst 0, 1) := by decide +kernel
theorem dX11_give_18 : decode cX11_give 18 = .ok (.goto 48, 3) := by decide +kernel
theorem dX11_give_21 : decode cX11_give 21 = .ok (.aload_n 0, 1) := by decide +kernel
theorem dX11_give_22 : decode cX11_give 22 = .ok (.iload_n 1, 1) := by decide +kernel
theorem dX11_give_23 : decode cX11_give 23 = .ok (.invokevirtual 332, 3) := by decide +kernel
theorem dX11_give_26 : decode cX11_give 26 = .ok (.ifCond .eq 15, 3) := by decide +kernel
theorem dX11_give_29 : decode cX11_give 29 = .ok (.aload_n 0, 1) := by decide +kernel
theorem dX11_give_30 : decode cX11_give 30 = .ok (.getfield 64, 3) := by decide +kernel
theorem dX11_give_33 : decode cX11_give 33 = .ok (.iconst 0, 1) := by decide +kernel
theorem dX11_give_34 : decode cX11_give 34 = .ok (.iload_n 1, 1) := by decide +kernel
theorem dX11_give_35 : decode cX11_give 35 = .ok (.iadd, 1) := by decide +kernel
theorem dX11_give_36 : decode cX11_give 36 = .ok (.iaload, 1) := by decide +kernel
theorem dX11_give_37 : decode cX11_give 37 = .ok (.iload_n 2, 1) := by decide +kernel
theorem dX11_give_38 : decode cX11_give 38 = .ok (.if_icmp .ne 7, 3) := by decide +kernel
theorem dX11_give_41 : decode cX11_give 41 = .ok (.iconst 2, 1) := by decide +kernel
theorem dX11_give_42 : decode cX11_give 42 = .ok (.goto 24, 3) := by decide +kernel
theorem dX11_give_45 : decode cX11_give 45 = .ok (.aload_n 0, 1) := by decide +kernel
theorem dX11_give_46 : decode cX11_give 46 = .ok (.getfield 64, 3) := by decide +kernel
theorem dX11_give_49 : decode cX11_give 49 = .ok (.bipush 8, 2) := by decide +kernel
theorem dX11_give_51 : decode cX11_give 51 = .ok (.iaload, 1) := by decide +kernel
theorem dX11_give_52 : decode cX11_give 52 = .ok (.aload_n 0, 1) := by decide +kernel
theorem dX11_give_53 : decode cX11_give 53 = .ok (.iload_n 1, 1) := by decide +kernel
theorem dX11_give_54 : decode cX11_give 54 = .ok (.iconst 2, 1) := by decide +kernel
theorem dX11_give_55 : decode cX11_give 55 = .ok (.invokevirtual 267, 3) := by decide +kernel
theorem dX11_give_58 : decode cX11_give 58 = .ok (.if_icmp .ge 7, 3) := by decide +kernel
theorem dX11_give_61 : decode cX11_give 61 = .ok (.iconst 3, 1) := by decide +kernel
theorem dX11_give_62 : decode cX11_give 62 = .ok (.goto 4, 3) := by decide +kernel
theorem dX11_give_65 : decode cX11_give 65 = .ok (.iconst (-1), 1) := by decide +kernel
theorem dX11_give_66 : decode cX11_give 66 = .ok (.invokevirtual 354, 3) := by decide +kernel
theorem dX11_give_69 : decode cX11_give 69 = .ok (.ifCond .eq 5, 3) := by decide +kernel
theorem dX11_give_72 : decode cX11_give 72 = .ok (.iconst (-1), 1) := by decide +kernel
theorem dX11_give_73 : decode cX11_give 73 = .ok (.ireturn, 1) := by decide +kernel
theorem dX11_give_74 : decode cX11_give 74 = .ok (.aload_n 0, 1) := by decide +kernel
theorem dX11_give_75 : decode cX11_give 75 = .ok (.invokevirtual 357, 3) := by decide +kernel
theorem dX11_give_78 : decode cX11_give 78 = .ok (.aload_n 0, 1) := by decide +kernel
theorem dX11_give_79 : decode cX11_give 79 = .ok (.getfield 64, 3) := by decide +kernel
theorem dX11_give_82 : decode cX11_give 82 = .ok (.iconst 0, 1) := by decide +kernel
theorem dX11_give_83 : decode cX11_give 83 = .ok (.iload_n 1, 1) := by decide +kernel
theorem dX11_give_84 : decode cX11_give 84 = .ok (.iadd, 1) := by decide +kernel
theorem dX11_give_85 : decode cX11_give 85 = .ok (.iload_n 2, 1) := by decide +kernel
theorem dX11_give_86 : decode cX11_give 86 = .ok (.iastore, 1) := by decide +kernel
theorem dX11_give_87 : decode cX11_give 87 = .ok (.aload_n 0, 1) := by decide +kernel
theorem dX11_give_88 : decode cX11_give 88 = .ok (.getfield 64, 3) := by decide +kernel
theorem dX11_give_91 : decode cX11_give 91 = .ok (.bipush 8, 2) := by decide +kernel
theorem dX11_give_93 : decode cX11_give 93 = .ok (.dup2, 1) := by decide +kernel
theorem dX11_give_94 : decode cX11_give 94 = .ok (.iaload, 1) := by decide +kernel
theorem dX11_give_95 : decode cX11_give 95 = .ok (.aload_n 0, 1) := by decide +kernel
theorem dX11_give_96 : decode cX11_give 96 = .ok (.iload_n 1, 1) := by decide +kernel
theorem dX11_give_97 : decode cX11_give 97 = .ok (.iconst 2, 1) := by decide +kernel
theorem dX11_give_98 : decode cX11_give 98 = .ok (.invokevirtual 267, 3) := by decide +kernel
theorem dX11_give_101 : decode cX11_give 101 = .ok (.isub, 1) := by decide +kernel
theorem dX11_give_102 : decode cX11_give 102 = .ok (.iastore, 1) := by decide +kernel
theorem dX11_give_103 : decode cX11_give 103 = .ok (.aload_n 0, 1) := by decide +kernel
theorem dX11_give_104 : decode cX11_give 104 = .ok (.getfield 64, 3) := by decide +kernel
theorem dX11_give_107 : decode cX11_give 107 = .ok (.bipush 8, 2) := by decide +kernel
theorem dX11_give_109 : decode cX11_give 109 = .ok (.iaload, 1) := by decide +kernel
theorem dX11_give_110 : decode cX11_give 110 = .ok (.ireturn, 1) := by decide +kernel
theorem dX11_mark_0 : decode cX11_mark 0 = .ok (.aload_n 0, 1) := by decide +kernel
theorem dX11_mark_1 : decode cX11_mark 1 = .ok (.aload_n 0, 1) := by decide +kernel
theorem dX11_mark_2 : decode cX11_mark 2 = .ok (.iload_n 2, 1) := by decide +kernel
theorem dX11_mark_3 : decode cX11_mark 3 = .ok (.invokevirtual 328, 3) := by decide +kernel
theorem dX11_mark_6 : decode cX11_mark 6 = .ok (.ifCond .ne 7, 3) := by decide +kernel
theorem dX11_mark_9 : decode cX11_mark 9 = .ok (.iconst 0, 1) := by decide +kernel
theorem dX11_mark_10 : decode cX11_mark 10 = .ok (.goto 33, 3) := by decide +kernel
theorem dX11_mark_13 : decode cX11_mark 13 = .ok (.aload_n 0, 1) := by decide +kernel
theorem dX11_mark_14 : decode cX11_mark 14 = .ok (.getfield 64, 3) := by decide +kernel
theorem dX11_mark_17 : decode cX11_mark 17 = .ok (.iload_n 1, 1) := by decide +kernel
theorem dX11_mark_18 : decode cX11_mark 18 = .ok (.iaload, 1) := by decide +kernel
theorem dX11_mark_19 : decode cX11_mark 19 = .ok (.iload_n 2, 1) := by decide +kernel
theorem dX11_mark_20 : decode cX11_mark 20 = .ok (.invokestatic 219, 3) := by decide +kernel
theorem dX11_mark_23 : decode cX11_mark 23 = .ok (.ifCond .ne 15, 3) := by decide +kernel
theorem dX11_mark_26 : decode cX11_mark 26 = .ok (.aload_n 0, 1) := by decide +kernel
theorem dX11_mark_27 : decode cX11_mark 27 = .ok (.getfield 64, 3) := by decide +kernel
theorem dX11_mark_30 : decode cX11_mark 30 = .ok (.iconst 0, 1) := by decide +kernel
theorem dX11_mark_31 : decode cX11_mark 31 = .ok (.iload_n 2, 1) := by decide +kernel
theorem dX11_mark_32 : decode cX11_mark 32 = .ok (.iadd, 1) := by decide +kernel
theorem dX11_mark_33 : decode cX11_mark 33 = .ok (.iaload, 1) := by decide +kernel
theorem dX11_mark_34 : decode cX11_mark 34 = .ok (.iconst (-1), 1) := by decide +kernel
theorem dX11_mark_35 : decode cX11_mark 35 = .ok (.if_icmp .ne 7, 3) := by decide +kernel
theorem dX11_mark_38 : decode cX11_mark 38 = .ok (.iconst 2, 1) := by decide +kernel
theorem dX11_mark_39 : decode cX11_mark 39 = .ok (.goto 4, 3) := by decide +kernel
theorem dX11_mark_42 : decode cX11_mark 42 = .ok (.iconst (-1), 1) := by decide +kernel
theorem dX11_mark_43 : decode cX11_mark 43 = .ok (.invokevirtual 354, 3) := by decide +kernel
theorem dX11_mark_46 : decode cX11_mark 46 = .ok (.ifCond .eq 5, 3) := by decide +kernel
theorem dX11_mark_49 : decode cX11_mark 49 = .ok (.iconst (-1), 1) := by decide +kernel
theorem dX11_mark_50 : decode cX11_mark 50 = .ok (.ireturn, 1) := by decide +kernel
theorem dX11_mark_51 : decode cX11_mark 51 = .ok (.aload_n 0, 1) := by decide +kernel
theorem dX11_mark_52 : decode cX11_mark 52 = .ok (.invokevirtual 357, 3) := by decide +kernel
theorem dX11_mark_55 : decode cX11_mark 55 = .ok (.aload_n 0, 1) := by decide +kernel
theorem dX11_mark_56 : decode cX11_mark 56 = .ok (.getfield 64, 3) := by decide +kernel
theorem dX11_mark_59 : decode cX11_mark 59 = .ok (.iload_n 1, 1) := by decide +kernel
theorem dX11_mark_60 : decode cX11_mark 60 = .ok (.dup2, 1) := by decide +kernel
theorem dX11_mark_61 : decode cX11_mark 61 = .ok (.iaload, 1) := by decide +kernel
theorem dX11_mark_62 : decode cX11_mark 62 = .ok (.iconst 1, 1) := by decide +kernel
theorem dX11_mark_63 : decode cX11_mark 63 = .ok (.iload_n 2, 1) := by decide +kernel
theorem dX11_mark_64 : decode cX11_mark 64 = .ok (.ishl, 1) := by decide +kernel
theorem dX11_mark_65 : decode cX11_mark 65 = .ok (.ior, 1) := by decide +kernel
theorem dX11_mark_66 : decode cX11_mark 66 = .ok (.iastore, 1) := by decide +kernel
theorem dX11_mark_67 : decode cX11_mark 67 = .ok (.aload_n 0, 1) := by decide +kernel
theorem dX11_mark_68 : decode cX11_mark 68 = .ok (.getfield 64, 3) := by decide +kernel
theorem dX11_mark_71 : decode cX11_mark 71 = .ok (.iload_n 1, 1) := by decide +kernel
theorem dX11_mark_72 : decode cX11_mark 72 = .ok (.iaload, 1) := by decide +kernel
theorem dX11_mark_73 : decode cX11_mark 73 = .ok (.invokestatic 289, 3) := by decide +kernel
theorem dX11_mark_76 : decode cX11_mark 76 = .ok (.ireturn, 1) := by decide +kernel
theorem dX11_chip_0 : decode cX11_chip 0 = .ok (.aload_n 0, 1) := by decide +kernel
theorem dX11_chip_1 : decode cX11_chip 1 = .ok (.bipush 6, 2) := by decide +kernel
theorem dX11_chip_3 : decode cX11_chip 3 = .ok (.iload_n 1, 1) := by decide +kernel
theorem dX11_chip_4 : decode cX11_chip 4 = .ok (.invokevirtual 366, 3) := by decide +kernel
theorem dX11_chip_7 : decode cX11_chip 7 = .ok (.ireturn, 1) := by decide +kernel
theorem dX11_swallow_0 : decode cX11_swallow 0 = .ok (.aload_n 0, 1) := by decide +kernel
theorem dX11_swallow_1 : decode cX11_swallow 1 = .ok (.bipush 7, 2) := by decide +kernel
theorem dX11_swallow_3 : decode cX11_swallow 3 = .ok (.iload_n 1, 1) := by decide +kernel
theorem dX11_swallow_4 : decode cX11_swallow 4 = .ok (.invokevirtual 366, 3) := by decide +kernel
theorem dX11_swallow_7 : decode cX11_swallow 7 = .ok (.ireturn, 1) := by decide +kernel
theorem dX11_passDay_0 : decode cX11_passDay 0 = .ok (.aload_n 0, 1) := by decide +kernel
theorem dX11_passDay_1 : decode cX11_passDay 1 = .ok (.invokevirtual 369, 3) := by decide +kernel
theorem dX11_passDay_4 : decode cX11_passDay 4 = .ok (.istore_n 1, 1) := by decide +kernel
theorem dX11_passDay_5 : decode cX11_passDay 5 = .ok (.aload_n 0, 1) := by decide +kernel
theorem dX11_passDay_6 : decode cX11_passDay 6 = .ok (.getfield 64, 3) := by decide +kernel
theorem dX11_passDay_9 : decode cX11_passDay 9 = .ok (.bipush 8, 2) := by decide +kernel
theorem dX11_passDay_11 : decode cX11_passDay 11 = .ok (.sipush 999, 3) := by decide +kernel
theorem dX11_passDay_14 : decode cX11_passDay 14 = .ok (.aload_n 0, 1) := by decide +kernel
theorem dX11_passDay_15 : decode cX11_passDay 15 = .ok (.getfield 64, 3) := by decide +kernel
theorem dX11_passDay_18 : decode cX11_passDay 18 = .ok (.bipush 8, 2) := by decide +kernel
theorem dX11_passDay_20 : decode cX11_passDay 20 = .ok (.iaload, 1) := by decide +kernel
theorem dX11_passDay_21 : decode cX11_passDay 21 = .ok (.aload_n 0, 1) := by decide +kernel
theorem dX11_passDay_22 : decode cX11_passDay 22 = .ok (.iload_n 1, 1) := by decide +kernel
theorem dX11_passDay_23 : decode cX11_passDay 23 = .ok (.invokevirtual 372, 3) := by decide +kernel
theorem dX11_passDay_26 : decode cX11_passDay 26 = .ok (.iadd, 1) := by decide +kernel
theorem dX11_passDay_27 : decode cX11_passDay 27 = .ok (.invokestatic 297, 3) := by decide +kernel
theorem dX11_passDay_30 : decode cX11_passDay 30 = .ok (.iastore, 1) := by decide +kernel
theorem dX11_passDay_31 : decode cX11_passDay 31 = .ok (.aload_n 0, 1) := by decide +kernel
theorem dX11_passDay_32 : decode cX11_passDay 32 = .ok (.getfield 64, 3) := by decide +kernel
theorem dX11_passDay_35 : decode cX11_passDay 35 = .ok (.bipush 9, 2) := by decide +kernel
theorem dX11_passDay_37 : decode cX11_passDay 37 = .ok (.dup2, 1) := by decide +kernel
theorem dX11_passDay_38 : decode cX11_passDay 38 = .ok (.iaload, 1) := by decide +kernel
theorem dX11_passDay_39 : decode cX11_passDay 39 = .ok (.iconst 1, 1) := by decide +kernel
theorem dX11_passDay_40 : decode cX11_passDay 40 = .ok (.iadd, 1) := by decide +kernel
theorem dX11_passDay_41 : decode cX11_passDay 41 = .ok (.iastore, 1) := by decide +kernel
theorem dX11_passDay_42 : decode cX11_passDay 42 = .ok (.aload_n 0, 1) := by decide +kernel
theorem dX11_passDay_43 : decode cX11_passDay 43 = .ok (.getfield 64, 3) := by decide +kernel
theorem dX11_passDay_46 : decode cX11_passDay 46 = .ok (.bipush 10, 2) := by decide +kernel
theorem dX11_passDay_48 : decode cX11_passDay 48 = .ok (.iaload, 1) := by decide +kernel
theorem dX11_passDay_49 : decode cX11_passDay 49 = .ok (.bipush 60, 2) := by decide +kernel
theorem dX11_passDay_51 : decode cX11_passDay 51 = .ok (.if_icmp .ne 48, 3) := by decide +kernel
theorem dX11_passDay_54 : decode cX11_passDay 54 = .ok (.iconst 2, 1) := by decide +kernel
theorem dX11_passDay_55 : decode cX11_passDay 55 = .ok (.istore_n 2, 1) := by decide +kernel
theorem dX11_passDay_56 : decode cX11_passDay 56 = .ok (.iload_n 2, 1) := by decide +kernel
theorem dX11_passDay_57 : decode cX11_passDay 57 = .ok (.bipush 120, 2) := by decide +kernel
theorem dX11_passDay_59 : decode cX11_passDay 59 = .ok (.if_icmp .ge 29, 3) := by decide +kernel
theorem dX11_passDay_62 : decode cX11_passDay 62 = .ok (.aload_n 0, 1) := by decide +kernel
theorem dX11_passDay_63 : decode cX11_passDay 63 = .ok (.getfield 64, 3) := by decide +kernel
theorem dX11_passDay_66 : decode cX11_passDay 66 = .ok (.bipush 11, 2) := by decide +kernel
theorem dX11_passDay_68 : decode cX11_passDay 68 = .ok (.iload_n 2, 1) := by decide +kernel
theorem dX11_passDay_69 : decode cX11_passDay 69 = .ok (.iadd, 1) := by decide +kernel
theorem dX11_passDay_70 : decode cX11_passDay 70 = .ok (.iconst 2, 1) := by decide +kernel
theorem dX11_passDay_71 : decode cX11_passDay 71 = .ok (.isub, 1) := by decide +kernel
theorem dX11_passDay_72 : decode cX11_passDay 72 = .ok (.aload_n 0, 1) := by decide +kernel
theorem dX11_passDay_73 : decode cX11_passDay 73 = .ok (.getfield 64, 3) := by decide +kernel
theorem dX11_passDay_76 : decode cX11_passDay 76 = .ok (.bipush 11, 2) := by decide +kernel
theorem dX11_passDay_78 : decode cX11_passDay 78 = .ok (.iload_n 2, 1) := by decide +kernel
theorem dX11_passDay_79 : decode cX11_passDay 79 = .ok (.iadd, 1) := by decide +kernel
theorem dX11_passDay_80 : decode cX11_passDay 80 = .ok (.iaload, 1) := by decide +kernel
theorem dX11_passDay_81 : decode cX11_passDay 81 = .ok (.iastore, 1) := by decide +kernel
theorem dX11_passDay_82 : decode cX11_passDay 82 = .ok (.iinc 2 1, 3) := by decide +kernel
theorem dX11_passDay_85 : decode cX11_passDay 85 = .ok (.goto (-29), 3) := by decide +kernel
theorem dX11_passDay_88 : decode cX11_passDay 88 = .ok (.aload_n 0, 1) := by decide +kernel
theorem dX11_passDay_89 : decode cX11_passDay 89 = .ok (.getfield 64, 3) := by decide +kernel
theorem dX11_passDay_92 : decode cX11_passDay 92 = .ok (.bipush 10, 2) := by decide +kernel
theorem dX11_passDay_94 : decode cX11_passDay 94 = .ok (.dup2, 1) := by decide +kernel
theorem dX11_passDay_95 : decode cX11_passDay 95 = .ok (.iaload, 1) := by decide +kernel
theorem dX11_passDay_96 : decode cX11_passDay 96 = .ok (.iconst 1, 1) := by decide +kernel
theorem dX11_passDay_97 : decode cX11_passDay 97 = .ok (.isub, 1) := by decide +kernel
theorem dX11_passDay_98 : decode cX11_passDay 98 = .ok (.iastore, 1) := by decide +kernel
theorem dX11_passDay_99 : decode cX11_passDay 99 = .ok (.aload_n 0, 1) := by decide +kernel
theorem dX11_passDay_100 : decode cX11_passDay 100 = .ok (.getfield 64, 3) := by decide +kernel
theorem dX11_passDay_103 : decode cX11_passDay 103 = .ok (.bipush 11, 2) := by decide +kernel
theorem dX11_passDay_105 : decode cX11_passDay 105 = .ok (.iconst 2, 1) := by decide +kernel
theorem dX11_passDay_106 : decode cX11_passDay 106 = .ok (.aload_n 0, 1) := by decide +kernel
theorem dX11_passDay_107 : decode cX11_passDay 107 = .ok (.getfield 64, 3) := by decide +kernel
theorem dX11_passDay_110 : decode cX11_passDay 110 = .ok (.bipush 10, 2) := by decide +kernel
theorem dX11_passDay_112 : decode cX11_passDay 112 = .ok (.iaload, 1) := by decide +kernel
theorem dX11_passDay_113 : decode cX11_passDay 113 = .ok (.imul, 1) := by decide +kernel
theorem dX11_passDay_114 : decode cX11_passDay 114 = .ok (.iadd, 1) := by decide +kernel
theorem dX11_passDay_115 : decode cX11_passDay 115 = .ok (.aload_n 0, 1) := by decide +kernel
theorem dX11_passDay_116 : decode cX11_passDay 116 = .ok (.getfield 64, 3) := by decide +kernel
theorem dX11_passDay_119 : decode cX11_passDay 119 = .ok (.bipush 8, 2) := by decide +kernel
theorem dX11_passDay_121 : decode cX11_passDay 121 = .ok (.iaload, 1) := by decide +kernel
theorem dX11_passDay_122 : decode cX11_passDay 122 = .ok (.iastore, 1) := by decide +kernel
theorem dX11_passDay_123 : decode cX11_passDay 123 = .ok (.aload_n 0, 1) := by decide +kernel
theorem dX11_passDay_124 : decode cX11_passDay 124 = .ok (.getfield 64, 3) := by decide +kernel
theorem dX11_passDay_127 : decode cX11_passDay 127 = .ok (.bipush 11, 2) := by decide +kernel
theorem dX11_passDay_129 : decode cX11_passDay 129 = .ok (.iconst 2, 1) := by decide +kernel
theorem dX11_passDay_130 : decode cX11_passDay 130 = .ok (.aload_n 0, 1) := by decide +kernel
theorem dX11_passDay_131 : decode cX11_passDay 131 = .ok (.getfield 64, 3) := by decide +kernel
theorem dX11_passDay_134 : decode cX11_passDay 134 = .ok (.bipush 10, 2) := by decide +kernel
theorem dX11_passDay_136 : decode cX11_passDay 136 = .ok (.iaload, 1) := by decide +kernel
theorem dX11_passDay_137 : decode cX11_passDay 137 = .ok (.imul, 1) := by decide +kernel
theorem dX11_passDay_138 : decode cX11_passDay 138 = .ok (.iadd, 1) := by decide +kernel
theorem dX11_passDay_139 : decode cX11_passDay 139 = .ok (.iconst 1, 1) := by decide +kernel
theorem dX11_passDay_140 : decode cX11_passDay 140 = .ok (.iadd, 1) := by decide +kernel
theorem dX11_passDay_141 : decode cX11_passDay 141 = .ok (.iload_n 1, 1) := by decide +kernel
theorem dX11_passDay_142 : decode cX11_passDay 142 = .ok (.iastore, 1) := by decide +kernel
theorem dX11_passDay_143 : decode cX11_passDay 143 = .ok (.aload_n 0, 1) := by decide +kernel
theorem dX11_passDay_144 : decode cX11_passDay 144 = .ok (.getfield 64, 3) := by decide +kernel
theorem dX11_passDay_147 : decode cX11_passDay 147 = .ok (.bipush 10, 2) := by decide +kernel
theorem dX11_passDay_149 : decode cX11_passDay 149 = .ok (.dup2, 1) := by decide +kernel
theorem dX11_passDay_150 : decode cX11_passDay 150 = .ok (.iaload, 1) := by decide +kernel
theorem dX11_passDay_151 : decode cX11_passDay 151 = .ok (.iconst 1, 1) := by decide +kernel
theorem dX11_passDay_152 : decode cX11_passDay 152 = .ok (.iadd, 1) := by decide +kernel
theorem dX11_passDay_153 : decode cX11_passDay 153 = .ok (.iastore, 1) := by decide +kernel
theorem dX11_passDay_154 : decode cX11_passDay 154 = .ok (.return_, 1) := by decide +kernel
theorem dX11_areDays_0 : decode cX11_areDays 0 = .ok (.iload_n 1, 1) := by decide +kernel
theorem dX11_areDays_1 : decode cX11_areDays 1 = .ok (.iconst 1, 1) := by decide +kernel
theorem dX11_areDays_2 : decode cX11_areDays 2 = .ok (.bipush 60, 2) := by decide +kernel
theorem dX11_areDays_4 : decode cX11_areDays 4 = .ok (.invokestatic 208, 3) := by decide +kernel
theorem dX11_areDays_7 : decode cX11_areDays 7 = .ok (.ifCond .eq 22, 3) := by decide +kernel
theorem dX11_areDays_10 : decode cX11_areDays 10 = .ok (.aload_n 0, 1) := by decide +kernel
theorem dX11_areDays_11 : decode cX11_areDays 11 = .ok (.getfield 64, 3) := by decide +kernel
theorem dX11_areDays_14 : decode cX11_areDays 14 = .ok (.bipush 9, 2) := by decide +kernel
theorem dX11_areDays_16 : decode cX11_areDays 16 = .ok (.iaload, 1) := by decide +kernel
theorem dX11_areDays_17 : decode cX11_areDays 17 = .ok (.iload_n 1, 1) := by decide +kernel
theorem dX11_areDays_18 : decode cX11_areDays 18 = .ok (.iadd, 1) := by decide +kernel
theorem dX11_areDays_19 : decode cX11_areDays 19 = .ok (.sipush 9999, 3) := by decide +kernel
theorem dX11_areDays_22 : decode cX11_areDays 22 = .ok (.if_icmp .gt 7, 3) := by decide +kernel
theorem dX11_areDays_25 : decode cX11_areDays 25 = .ok (.iconst 1, 1) := by decide +kernel
theorem dX11_areDays_26 : decode cX11_areDays 26 = .ok (.goto 4, 3) := by decide +kernel
theorem dX11_areDays_29 : decode cX11_areDays 29 = .ok (.iconst 0, 1) := by decide +kernel
theorem dX11_areDays_30 : decode cX11_areDays 30 = .ok (.ireturn, 1) := by decide +kernel
theorem dX11_days_0 : decode cX11_days 0 = .ok (.aload_n 0, 1) := by decide +kernel
theorem dX11_days_1 : decode cX11_days 1 = .ok (.aload_n 0, 1) := by decide +kernel
theorem dX11_days_2 : decode cX11_days 2 = .ok (.getfield 261, 3) := by decide +kernel
theorem dX11_days_5 : decode cX11_days 5 = .ok (.ifCond .ne 7, 3) := by decide +kernel
theorem dX11_days_8 : decode cX11_days 8 = .ok (.iconst 0, 1) := by decide +kernel
theorem dX11_days_9 : decode cX11_days 9 = .ok (.goto 30, 3) := by decide +kernel
theorem dX11_days_12 : decode cX11_days 12 = .ok (.iload_n 1, 1) := by decide +kernel
theorem dX11_days_13 : decode cX11_days 13 = .ok (.iconst 1, 1) := by decide +kernel
theorem dX11_days_14 : decode cX11_days 14 = .ok (.bipush 60, 2) := by decide +kernel
theorem dX11_days_16 : decode cX11_days 16 = .ok (.invokestatic 208, 3) := by decide +kernel
theorem dX11_days_19 : decode cX11_days 19 = .ok (.ifCond .ne 7, 3) := by decide +kernel
theorem dX11_days_22 : decode cX11_days 22 = .ok (.iconst 1, 1) := by decide +kernel
theorem dX11_days_23 : decode cX11_days 23 = .ok (.goto 16, 3) := by decide +kernel
theorem dX11_days_26 : decode cX11_days 26 = .ok (.aload_n 0, 1) := by decide +kernel
theorem dX11_days_27 : decode cX11_days 27 = .ok (.iload_n 1, 1) := by decide +kernel
theorem dX11_days_28 : decode cX11_days 28 = .ok (.invokevirtual 375, 3) := by decide +kernel
theorem dX11_days_31 : decode cX11_days 31 = .ok (.ifCond .ne 7, 3) := by decide +kernel
theorem dX11_days_34 : decode cX11_days 34 = .ok (.iconst 4, 1) := by decide +kernel
theorem dX11_days_35 : decode cX11_days 35 = .ok (.goto 4, 3) := by decide +kernel
theorem dX11_days_38 : decode cX11_days 38 = .ok (.iconst (-1), 1) := by decide +kernel
theorem dX11_days_39 : decode cX11_days 39 = .ok (.invokevirtual 354, 3) := by decide +kernel
theorem dX11_days_42 : decode cX11_days 42 = .ok (.ifCond .eq 5, 3) := by decide +kernel
theorem dX11_days_45 : decode cX11_days 45 = .ok (.iconst (-1), 1) := by decide +kernel
theorem dX11_days_46 : decode cX11_days 46 = .ok (.ireturn, 1) := by decide +kernel
theorem dX11_days_47 : decode cX11_days 47 = .ok (.iconst 0, 1) := by decide +kernel
theorem dX11_days_48 : decode cX11_days 48 = .ok (.istore_n 2, 1) := by decide +kernel
theorem dX11_days_49 : decode cX11_days 49 = .ok (.iload_n 2, 1) := by decide +kernel
theorem dX11_days_50 : decode cX11_days 50 = .ok (.iload_n 1, 1) := by decide +kernel
theorem dX11_days_51 : decode cX11_days 51 = .ok (.if_icmp .ge 17, 3) := by decide +kernel
theorem dX11_days_54 : decode cX11_days 54 = .ok (.aload_n 0, 1) := by decide +kernel
theorem dX11_days_55 : decode cX11_days 55 = .ok (.invokevirtual 357, 3) := by decide +kernel
theorem dX11_days_58 : decode cX11_days 58 = .ok (.aload_n 0, 1) := by decide +kernel
theorem dX11_days_59 : decode cX11_days 59 = .ok (.invokevirtual 378, 3) := by decide +kernel
theorem dX11_days_62 : decode cX11_days 62 = .ok (.iinc 2 1, 3) := by decide +kernel
theorem dX11_days_65 : decode cX11_days 65 = .ok (.goto (-16), 3) := by decide +kernel
theorem dX11_days_68 : decode cX11_days 68 = .ok (.aload_n 0, 1) := by decide +kernel
theorem dX11_days_69 : decode cX11_days 69 = .ok (.getfield 64, 3) := by decide +kernel
theorem dX11_days_72 : decode cX11_days 72 = .ok (.bipush 8, 2) := by decide +kernel
theorem dX11_days_74 : decode cX11_days 74 = .ok (.iaload, 1) := by decide +kernel
theorem dX11_days_75 : decode cX11_days 75 = .ok (.ireturn, 1) := by decide +kernel
theorem dX11_spills_0 : decode cX11_spills 0 = .ok (.iload_n 1, 1) := by decide +kernel
theorem dX11_spills_1 : decode cX11_spills 1 = .ok (.iconst 0, 1) := by decide +kernel
theorem dX11_spills_2 : decode cX11_spills 2 = .ok (.bipush 9, 2) := by decide +kernel
theorem dX11_spills_4 : decode cX11_spills 4 = .ok (.invokestatic 208, 3) := by decide +kernel
theorem dX11_spills_7 : decode cX11_spills 7 = .ok (.ifCond .eq 11, 3) := by decide +kernel
theorem dX11_spills_10 : decode cX11_spills 10 = .ok (.iload_n 1, 1) := by decide +kernel
theorem dX11_spills_11 : decode cX11_spills 11 = .ok (.aload_n 0, 1) := by decide +kernel
theorem dX11_spills_12 : decode cX11_spills 12 = .ok (.getfield 381, 3) := by decide +kernel
theorem dX11_spills_15 : decode cX11_spills 15 = .ok (.if_icmp .ne 5, 3) := by decide +kernel
theorem dX11_spills_18 : decode cX11_spills 18 = .ok (.iconst 0, 1) := by decide +kernel
theorem dX11_spills_19 : decode cX11_spills 19 = .ok (.ireturn, 1) := by decide +kernel
theorem dX11_spills_20 : decode cX11_spills 20 = .ok (.aload_n 0, 1) := by decide +kernel
theorem dX11_spills_21 : decode cX11_spills 21 = .ok (.iload_n 1, 1) := by decide +kernel
theorem dX11_spills_22 : decode cX11_spills 22 = .ok (.putfield 381, 3) := by decide +kernel
theorem dX11_spills_25 : decode cX11_spills 25 = .ok (.iconst 1, 1) := by decide +kernel
theorem dX11_spills_26 : decode cX11_spills 26 = .ok (.ireturn, 1) := by decide +kernel
theorem dX11_draw_0 : decode cX11_draw 0 = .ok (.aload_n 0, 1) := by decide +kernel
theorem dX11_draw_1 : decode cX11_draw 1 = .ok (.aload_n 0, 1) := by decide +kernel
theorem dX11_draw_2 : decode cX11_draw 2 = .ok (.getfield 384, 3) := by decide +kernel
theorem dX11_draw_5 : decode cX11_draw 5 = .ok (.ldc2_w 388, 3) := by decide +kernel
theorem dX11_draw_8 : decode cX11_draw 8 = .ok (.lmul, 1) := by decide +kernel
theorem dX11_draw_9 : decode cX11_draw 9 = .ok (.ldc2_w 390, 3) := by decide +kernel
theorem dX11_draw_12 : decode cX11_draw 12 = .ok (.ladd, 1) := by decide +kernel
theorem dX11_draw_13 : decode cX11_draw 13 = .ok (.putfield 384, 3) := by decide +kernel
theorem dX11_draw_16 : decode cX11_draw 16 = .ok (.aload_n 0, 1) := by decide +kernel
theorem dX11_draw_17 : decode cX11_draw 17 = .ok (.getfield 384, 3) := by decide +kernel
theorem dX11_draw_20 : decode cX11_draw 20 = .ok (.bipush 33, 2) := by decide +kernel
theorem dX11_draw_22 : decode cX11_draw 22 = .ok (.lushr, 1) := by decide +kernel
theorem dX11_draw_23 : decode cX11_draw 23 = .ok (.iload_n 1, 1) := by decide +kernel
theorem dX11_draw_24 : decode cX11_draw 24 = .ok (.i2l, 1) := by decide +kernel
theorem dX11_draw_25 : decode cX11_draw 25 = .ok (.lrem, 1) := by decide +kernel
theorem dX11_draw_26 : decode cX11_draw 26 = .ok (.l2i, 1) := by decide +kernel
theorem dX11_draw_27 : decode cX11_draw 27 = .ok (.ireturn, 1) := by decide +kernel
theorem dX11_drawDay_0 : decode cX11_drawDay 0 = .ok (.aload_n 0, 1) := by decide +kernel
theorem dX11_drawDay_1 : decode cX11_drawDay 1 = .ok (.aload_n 0, 1) := by decide +kernel
theorem dX11_drawDay_2 : decode cX11_drawDay 2 = .ok (.getfield 261, 3) := by decide +kernel
theorem dX11_drawDay_5 : decode cX11_drawDay 5 = .ok (.invokevirtual 392, 3) := by decide +kernel
theorem dX11_drawDay_8 : decode cX11_drawDay 8 = .ok (.istore_n 1, 1) := by decide +kernel
theorem dX11_drawDay_9 : decode cX11_drawDay 9 = .ok (.aload_n 0, 1) := by decide +kernel
theorem dX11_drawDay_10 : decode cX11_drawDay 10 = .ok (.aload_n 0, 1) := by decide +kernel
theorem dX11_drawDay_11 : decode cX11_drawDay 11 = .ok (.getfield 261, 3) := by decide +kernel
theorem dX11_drawDay_14 : decode cX11_drawDay 14 = .ok (.invokevirtual 392, 3) := by decide +kernel
theorem dX11_drawDay_17 : decode cX11_drawDay 17 = .ok (.istore_n 2, 1) := by decide +kernel
theorem dX11_drawDay_18 : decode cX11_drawDay 18 = .ok (.aload_n 0, 1) := by decide +kernel
theorem dX11_drawDay_19 : decode cX11_drawDay 19 = .ok (.bipush 9, 2) := by decide +kernel
theorem dX11_drawDay_21 : decode cX11_drawDay 21 = .ok (.invokevirtual 392, 3) := by decide +kernel
theorem dX11_drawDay_24 : decode cX11_drawDay 24 = .ok (.iconst 1, 1) := by decide +kernel
theorem dX11_drawDay_25 : decode cX11_drawDay 25 = .ok (.iadd, 1) := by decide +kernel
theorem dX11_drawDay_26 : decode cX11_drawDay 26 = .ok (.istore_n 3, 1) := by decide +kernel
theorem dX11_drawDay_27 : decode cX11_drawDay 27 = .ok (.aload_n 0, 1) := by decide +kernel
theorem dX11_drawDay_28 : decode cX11_drawDay 28 = .ok (.bipush 9, 2) := by decide +kernel
theorem dX11_drawDay_30 : decode cX11_drawDay 30 = .ok (.invokevirtual 392, 3) := by decide +kernel
theorem dX11_drawDay_33 : decode cX11_drawDay 33 = .ok (.iconst 1, 1) := by decide +kernel
theorem dX11_drawDay_34 : decode cX11_drawDay 34 = .ok (.iadd, 1) := by decide +kernel
theorem dX11_drawDay_35 : decode cX11_drawDay 35 = .ok (.istore 4, 2) := by decide +kernel
theorem dX11_drawDay_37 : decode cX11_drawDay 37 = .ok (.aload_n 0, 1) := by decide +kernel
theorem dX11_drawDay_38 : decode cX11_drawDay 38 = .ok (.iload_n 1, 1) := by decide +kernel
theorem dX11_drawDay_39 : decode cX11_drawDay 39 = .ok (.iload_n 2, 1) := by decide +kernel
theorem dX11_drawDay_40 : decode cX11_drawDay 40 = .ok (.invokevirtual 335, 3) := by decide +kernel
theorem dX11_drawDay_43 : decode cX11_drawDay 43 = .ok (.iconst (-1), 1) := by decide +kernel
theorem dX11_drawDay_44 : decode cX11_drawDay 44 = .ok (.if_icmp .ne 13, 3) := by decide +kernel
theorem dX11_drawDay_47 : decode cX11_drawDay 47 = .ok (.aload_n 0, 1) := by decide +kernel
theorem dX11_drawDay_48 : decode cX11_drawDay 48 = .ok (.iload_n 1, 1) := by decide +kernel
theorem dX11_drawDay_49 : decode cX11_drawDay 49 = .ok (.iload_n 3, 1) := by decide +kernel
theorem dX11_drawDay_50 : decode cX11_drawDay 50 = .ok (.iload_n 2, 1) := by decide +kernel
theorem dX11_drawDay_51 : decode cX11_drawDay 51 = .ok (.iload 4, 2) := by decide +kernel
theorem dX11_drawDay_53 : decode cX11_drawDay 53 = .ok (.invokevirtual 360, 3) := by decide +kernel
theorem dX11_drawDay_56 : decode cX11_drawDay 56 = .ok (.pop, 1) := by decide +kernel
theorem dX11_drawDay_57 : decode cX11_drawDay 57 = .ok (.aload_n 0, 1) := by decide +kernel
theorem dX11_drawDay_58 : decode cX11_drawDay 58 = .ok (.bipush 10, 2) := by decide +kernel
theorem dX11_drawDay_60 : decode cX11_drawDay 60 = .ok (.invokevirtual 392, 3) := by decide +kernel
theorem dX11_drawDay_63 : decode cX11_drawDay 63 = .ok (.aload_n 0, 1) := by decide +kernel
theorem dX11_drawDay_64 : decode cX11_drawDay 64 = .ok (.getfield 381, 3) := by decide +kernel
theorem dX11_drawDay_67 : decode cX11_drawDay 67 = .ok (.if_icmp .ge 44, 3) := by decide +kernel
theorem dX11_drawDay_70 : decode cX11_drawDay 70 = .ok (.aload_n 0, 1) := by decide +kernel
theorem dX11_drawDay_71 : decode cX11_drawDay 71 = .ok (.aload_n 0, 1) := by decide +kernel
theorem dX11_drawDay_72 : decode cX11_drawDay 72 = .ok (.getfield 261, 3) := by decide +kernel
theorem dX11_drawDay_75 : decode cX11_drawDay 75 = .ok (.invokevirtual 392, 3) := by decide +kernel
theorem dX11_drawDay_78 : decode cX11_drawDay 78 = .ok (.istore 5, 2) := by decide +kernel
theorem dX11_drawDay_80 : decode cX11_drawDay 80 = .ok (.aload_n 0, 1) := by decide +kernel
theorem dX11_drawDay_81 : decode cX11_drawDay 81 = .ok (.getfield 64, 3) := by decide +kernel
theorem dX11_drawDay_84 : decode cX11_drawDay 84 = .ok (.bipush 6, 2) := by decide +kernel
theorem dX11_drawDay_86 : decode cX11_drawDay 86 = .ok (.dup2, 1) := by decide +kernel
theorem dX11_drawDay_87 : decode cX11_drawDay 87 = .ok (.iaload, 1) := by decide +kernel
theorem dX11_drawDay_88 : decode cX11_drawDay 88 = .ok (.aload_n 0, 1) := by decide +kernel
theorem dX11_drawDay_89 : decode cX11_drawDay 89 = .ok (.getfield 64, 3) := by decide +kernel
theorem dX11_drawDay_92 : decode cX11_drawDay 92 = .ok (.iconst 0, 1) := by decide +kernel
theorem dX11_drawDay_93 : decode cX11_drawDay 93 = .ok (.iload 5, 2) := by decide +kernel
theorem dX11_drawDay_95 : decode cX11_drawDay 95 = .ok (.iadd, 1) := by decide +kernel
theorem dX11_drawDay_96 : decode cX11_drawDay 96 = .ok (.iaload, 1) := by decide +kernel
theorem dX11_drawDay_97 : decode cX11_drawDay 97 = .ok (.iconst (-1), 1) := by decide +kernel
theorem dX11_drawDay_98 : decode cX11_drawDay 98 = .ok (.if_icmp .ne 7, 3) := by decide +kernel
theorem dX11_drawDay_101 : decode cX11_drawDay 101 = .ok (.iconst 0, 1) := by decide +kernel
theorem dX11_drawDay_102 : decode cX11_drawDay 102 = .ok (.goto 7, 3) := by decide +kernel
theorem dX11_drawDay_105 : decode cX11_drawDay 105 = .ok (.iconst 1, 1) := by decide +kernel
theorem dX11_drawDay_106 : decode cX11_drawDay 106 = .ok (.iload 5, 2) := by decide +kernel
theorem dX11_drawDay_108 : decode cX11_drawDay 108 = .ok (.ishl, 1) := by decide +kernel
theorem dX11_drawDay_109 : decode cX11_drawDay 109 = .ok (.ior, 1) := by decide +kernel
theorem dX11_drawDay_110 : decode cX11_drawDay 110 = .ok (.iastore, 1) := by decide +kernel
theorem dX11_drawDay_111 : decode cX11_drawDay 111 = .ok (.return_, 1) := by decide +kernel
theorem dX11_years_0 : decode cX11_years 0 = .ok (.aload_n 0, 1) := by decide +kernel
theorem dX11_years_1 : decode cX11_years 1 = .ok (.getfield 261, 3) := by decide +kernel
theorem dX11_years_4 : decode cX11_years 4 = .ok (.ifCond .eq 11, 3) := by decide +kernel
theorem dX11_years_7 : decode cX11_years 7 = .ok (.aload_n 0, 1) := by decide +kernel
theorem dX11_years_8 : decode cX11_years 8 = .ok (.iload_n 1, 1) := by decide +kernel
theorem dX11_years_9 : decode cX11_years 9 = .ok (.invokevirtual 375, 3) := by decide +kernel
theorem dX11_years_12 : decode cX11_years 12 = .ok (.ifCond .ne 5, 3) := by decide +kernel
theorem dX11_years_15 : decode cX11_years 15 = .ok (.iconst (-1), 1) := by decide +kernel
theorem dX11_years_16 : decode cX11_years 16 = .ok (.ireturn, 1) := by decide +kernel
theorem dX11_years_17 : decode cX11_years 17 = .ok (.aload_n 0, 1) := by decide +kernel
theorem dX11_years_18 : decode cX11_years 18 = .ok (.lload_n 2, 1) := by decide +kernel
theorem dX11_years_19 : decode cX11_years 19 = .ok (.putfield 384, 3) := by decide +kernel
theorem dX11_years_22 : decode cX11_years 22 = .ok (.iconst 0, 1) := by decide +kernel
theorem dX11_years_23 : decode cX11_years 23 = .ok (.istore 4, 2) := by decide +kernel
theorem dX11_years_25 : decode cX11_years 25 = .ok (.iload 4, 2) := by decide +kernel
theorem dX11_years_27 : decode cX11_years 27 = .ok (.iload_n 1, 1) := by decide +kernel
theorem dX11_years_28 : decode cX11_years 28 = .ok (.if_icmp .ge 21, 3) := by decide +kernel
theorem dX11_years_31 : decode cX11_years 31 = .ok (.aload_n 0, 1) := by decide +kernel
theorem dX11_years_32 : decode cX11_years 32 = .ok (.invokevirtual 357, 3) := by decide +kernel
theorem dX11_years_35 : decode cX11_years 35 = .ok (.aload_n 0, 1) := by decide +kernel
theorem dX11_years_36 : decode cX11_years 36 = .ok (.invokevirtual 395, 3) := by decide +kernel
theorem dX11_years_39 : decode cX11_years 39 = .ok (.aload_n 0, 1) := by decide +kernel
theorem dX11_years_40 : decode cX11_years 40 = .ok (.invokevirtual 378, 3) := by decide +kernel
theorem dX11_years_43 : decode cX11_years 43 = .ok (.iinc 4 1, 3) := by decide +kernel
theorem dX11_years_46 : decode cX11_years 46 = .ok (.goto (-21), 3) := by decide +kernel
theorem dX11_years_49 : decode cX11_years 49 = .ok (.aload_n 0, 1) := by decide +kernel
theorem dX11_years_50 : decode cX11_years 50 = .ok (.getfield 64, 3) := by decide +kernel
theorem dX11_years_53 : decode cX11_years 53 = .ok (.bipush 9, 2) := by decide +kernel
theorem dX11_years_55 : decode cX11_years 55 = .ok (.iaload, 1) := by decide +kernel
theorem dX11_years_56 : decode cX11_years 56 = .ok (.ireturn, 1) := by decide +kernel
theorem dX11_status_0 : decode cX11_status 0 = .ok (.iload_n 1, 1) := by decide +kernel
theorem dX11_status_1 : decode cX11_status 1 = .ok (.iconst 0, 1) := by decide +kernel
theorem dX11_status_2 : decode cX11_status 2 = .ok (.iconst 4, 1) := by decide +kernel
theorem dX11_status_3 : decode cX11_status 3 = .ok (.invokestatic 208, 3) := by decide +kernel
theorem dX11_status_6 : decode cX11_status 6 = .ok (.ifCond .eq 12, 3) := by decide +kernel
theorem dX11_status_9 : decode cX11_status 9 = .ok (.aload_n 0, 1) := by decide +kernel
theorem dX11_status_10 : decode cX11_status 10 = .ok (.getfield 67, 3) := by decide +kernel
theorem dX11_status_13 : decode cX11_status 13 = .ok (.iload_n 1, 1) := by decide +kernel
theorem dX11_status_14 : decode cX11_status 14 = .ok (.iaload, 1) := by decide +kernel
theorem dX11_status_15 : decode cX11_status 15 = .ok (.goto 4, 3) := by decide +kernel
theorem dX11_status_18 : decode cX11_status 18 = .ok (.iconst (-1), 1) := by decide +kernel
theorem dX11_status_19 : decode cX11_status 19 = .ok (.ireturn, 1) := by decide +kernel
theorem dX11_undo_0 : decode cX11_undo 0 = .ok (.aload_n 0, 1) := by decide +kernel
theorem dX11_undo_1 : decode cX11_undo 1 = .ok (.getfield 273, 3) := by decide +kernel
theorem dX11_undo_4 : decode cX11_undo 4 = .ok (.ifCond .ne 5, 3) := by decide +kernel
theorem dX11_undo_7 : decode cX11_undo 7 = .ok (.iconst (-1), 1) := by decide +kernel
theorem dX11_undo_8 : decode cX11_undo 8 = .ok (.ireturn, 1) := by decide +kernel
theorem dX11_undo_9 : decode cX11_undo 9 = .ok (.aload_n 0, 1) := by decide +kernel
theorem dX11_undo_10 : decode cX11_undo 10 = .ok (.dup, 1) := by decide +kernel
theorem dX11_undo_11 : decode cX11_undo 11 = .ok (.getfield 273, 3) := by decide +kernel
theorem dX11_undo_14 : decode cX11_undo 14 = .ok (.iconst 1, 1) := by decide +kernel
theorem dX11_undo_15 : decode cX11_undo 15 = .ok (.isub, 1) := by decide +kernel
theorem dX11_undo_16 : decode cX11_undo 16 = .ok (.putfield 273, 3) := by decide +kernel
theorem dX11_undo_19 : decode cX11_undo 19 = .ok (.iconst 0, 1) := by decide +kernel
theorem dX11_undo_20 : decode cX11_undo 20 = .ok (.istore_n 1, 1) := by decide +kernel
theorem dX11_undo_21 : decode cX11_undo 21 = .ok (.iload_n 1, 1) := by decide +kernel
theorem dX11_undo_22 : decode cX11_undo 22 = .ok (.sipush 131, 3) := by decide +kernel
theorem dX11_undo_25 : decode cX11_undo 25 = .ok (.if_icmp .ge 30, 3) := by decide +kernel
theorem dX11_undo_28 : decode cX11_undo 28 = .ok (.aload_n 0, 1) := by decide +kernel
theorem dX11_undo_29 : decode cX11_undo 29 = .ok (.getfield 64, 3) := by decide +kernel
theorem dX11_undo_32 : decode cX11_undo 32 = .ok (.iload_n 1, 1) := by decide +kernel
theorem dX11_undo_33 : decode cX11_undo 33 = .ok (.aload_n 0, 1) := by decide +kernel
theorem dX11_undo_34 : decode cX11_undo 34 = .ok (.getfield 74, 3) := by decide +kernel
theorem dX11_undo_37 : decode cX11_undo 37 = .ok (.sipush 131, 3) := by decide +kernel
theorem dX11_undo_40 : decode cX11_undo 40 = .ok (.aload_n 0, 1) := by decide +kernel
theorem dX11_undo_41 : decode cX11_undo 41 = .ok (.getfield 273, 3) := by decide +kernel
theorem dX11_undo_44 : decode cX11_undo 44 = .ok (.imul, 1) := by decide +kernel
theorem dX11_undo_45 : decode cX11_undo 45 = .ok (.iload_n 1, 1) := by decide +kernel
theorem dX11_undo_46 : decode cX11_undo 46 = .ok (.iadd, 1) := by decide +kernel
theorem dX11_undo_47 : decode cX11_undo 47 = .ok (.iaload, 1) := by decide +kernel
theorem dX11_undo_48 : decode cX11_undo 48 = .ok (.iastore, 1) := by decide +kernel
theorem dX11_undo_49 : decode cX11_undo 49 = .ok (.iinc 1 1, 3) := by decide +kernel
theorem dX11_undo_52 : decode cX11_undo 52 = .ok (.goto (-31), 3) := by decide +kernel
theorem dX11_undo_55 : decode cX11_undo 55 = .ok (.aload_n 0, 1) := by decide +kernel
theorem dX11_undo_56 : decode cX11_undo 56 = .ok (.getfield 273, 3) := by decide +kernel
theorem dX11_undo_59 : decode cX11_undo 59 = .ok (.ireturn, 1) := by decide +kernel
theorem dX11_log_0 : decode cX11_log 0 = .ok (.iload_n 1, 1) := by decide +kernel
theorem dX11_log_1 : decode cX11_log 1 = .ok (.iconst 0, 1) := by decide +kernel
theorem dX11_log_2 : decode cX11_log 2 = .ok (.aload_n 0, 1) := by decide +kernel
theorem dX11_log_3 : decode cX11_log 3 = .ok (.getfield 64, 3) := by decide +kernel
theorem dX11_log_6 : decode cX11_log 6 = .ok (.bipush 10, 2) := by decide +kernel
theorem dX11_log_8 : decode cX11_log 8 = .ok (.iaload, 1) := by decide +kernel
theorem dX11_log_9 : decode cX11_log 9 = .ok (.iconst 1, 1) := by decide +kernel
theorem dX11_log_10 : decode cX11_log 10 = .ok (.isub, 1) := by decide +kernel
theorem dX11_log_11 : decode cX11_log 11 = .ok (.invokestatic 208, 3) := by decide +kernel
theorem dX11_log_14 : decode cX11_log 14 = .ok (.ifCond .eq 38, 3) := by decide +kernel
theorem dX11_log_17 : decode cX11_log 17 = .ok (.iload_n 2, 1) := by decide +kernel
theorem dX11_log_18 : decode cX11_log 18 = .ok (.iconst 0, 1) := by decide +kernel
theorem dX11_log_19 : decode cX11_log 19 = .ok (.iconst 1, 1) := by decide +kernel
theorem dX11_log_20 : decode cX11_log 20 = .ok (.invokestatic 208, 3) := by decide +kernel
theorem dX11_log_23 : decode cX11_log 23 = .ok (.ifCond .eq 29, 3) := by decide +kernel
theorem dX11_log_26 : decode cX11_log 26 = .ok (.aload_n 0, 1) := by decide +kernel
theorem dX11_log_27 : decode cX11_log 27 = .ok (.getfield 64, 3) := by decide +kernel
theorem dX11_log_30 : decode cX11_log 30 = .ok (.bipush 11, 2) := by decide +kernel
theorem dX11_log_32 : decode cX11_log 32 = .ok (.iconst 2, 1) := by decide +kernel
theorem dX11_log_33 : decode cX11_log 33 = .ok (.aload_n 0, 1) := by decide +kernel
theorem dX11_log_34 : decode cX11_log 34 = .ok (.getfield 64, 3) := by decide +kernel
theorem dX11_log_37 : decode cX11_log 37 = .ok (.bipush 10, 2) := by decide +kernel
theorem dX11_log_39 : decode cX11_log 39 = .ok (.iaload, 1) := by decide +kernel
theorem dX11_log_40 : decode cX11_log 40 = .ok (.iconst 1, 1) := by decide +kernel
theorem dX11_log_41 : decode cX11_log 41 = .ok (.isub, 1) := by decide +kernel
theorem dX11_log_42 : decode cX11_log 42 = .ok (.iload_n 1, 1) := by decide +kernel
theorem dX11_log_43 : decode cX11_log 43 = .ok (.isub, 1) := by decide +kernel
theorem dX11_log_44 : decode cX11_log 44 = .ok (.imul, 1) := by decide +kernel
theorem dX11_log_45 : decode cX11_log 45 = .ok (.iadd, 1) := by decide +kernel
theorem dX11_log_46 : decode cX11_log 46 = .ok (.iload_n 2, 1) := by decide +kernel
theorem dX11_log_47 : decode cX11_log 47 = .ok (.iadd, 1) := by decide +kernel
theorem dX11_log_48 : decode cX11_log 48 = .ok (.iaload, 1) := by decide +kernel
theorem dX11_log_49 : decode cX11_log 49 = .ok (.goto 4, 3) := by decide +kernel
theorem dX11_log_52 : decode cX11_log 52 = .ok (.iconst (-1), 1) := by decide +kernel
theorem dX11_log_53 : decode cX11_log 53 = .ok (.ireturn, 1) := by decide +kernel
theorem dX11_lands_0 : decode cX11_lands 0 = .ok (.aload_n 0, 1) := by decide +kernel
theorem dX11_lands_1 : decode cX11_lands 1 = .ok (.iload_n 1, 1) := by decide +kernel
theorem dX11_lands_2 : decode cX11_lands 2 = .ok (.invokevirtual 325, 3) := by decide +kernel
theorem dX11_lands_5 : decode cX11_lands 5 = .ok (.ifCond .eq 28, 3) := by decide +kernel
theorem dX11_lands_8 : decode cX11_lands 8 = .ok (.aload_n 0, 1) := by decide +kernel
theorem dX11_lands_9 : decode cX11_lands 9 = .ok (.iload_n 2, 1) := by decide +kernel
