theorem dX10_likingFor_88 : decode cX10_likingFor 88 = .ok (.goto 4, 3) := by decide +kernel
theorem dX10_likingFor_91 : decode cX10_likingFor 91 = .ok (.iconst 0, 1) := by decide +kernel
theorem dX10_likingFor_92 : decode cX10_likingFor 92 = .ok (.iadd, 1) := by decide +kernel
theorem dX10_likingFor_93 : decode cX10_likingFor 93 = .ok (.ireturn, 1) := by decide +kernel
theorem dX10_bothWouldSwap_0 : decode cX10_bothWouldSwap 0 = .ok (.aload_n 0, 1) := by decide +kernel
theorem dX10_bothWouldSwap_1 : decode cX10_bothWouldSwap 1 = .ok (.getfield 85, 3) := by decide +kernel
theorem dX10_bothWouldSwap_4 : decode cX10_bothWouldSwap 4 = .ok (.iload_n 1, 1) := by decide +kernel
theorem dX10_bothWouldSwap_5 : decode cX10_bothWouldSwap 5 = .ok (.iconst 1, 1) := by decide +kernel
theorem dX10_bothWouldSwap_6 : decode cX10_bothWouldSwap 6 = .ok (.iload_n 2, 1) := by decide +kernel
theorem dX10_bothWouldSwap_7 : decode cX10_bothWouldSwap 7 = .ok (.iconst 1, 1) := by decide +kernel
theorem dX10_bothWouldSwap_8 : decode cX10_bothWouldSwap 8 = .ok (.invokevirtual 213, 3) := by decide +kernel
theorem dX10_bothWouldSwap_11 : decode cX10_bothWouldSwap 11 = .ok (.iconst (-1), 1) := by decide +kernel
theorem dX10_bothWouldSwap_12 : decode cX10_bothWouldSwap 12 = .ok (.if_icmp .eq 5, 3) := by decide +kernel
theorem dX10_bothWouldSwap_15 : decode cX10_bothWouldSwap 15 = .ok (.iconst 0, 1) := by decide +kernel
theorem dX10_bothWouldSwap_16 : decode cX10_bothWouldSwap 16 = .ok (.ireturn, 1) := by decide +kernel
theorem dX10_bothWouldSwap_17 : decode cX10_bothWouldSwap 17 = .ok (.aload_n 0, 1) := by decide +kernel
theorem dX10_bothWouldSwap_18 : decode cX10_bothWouldSwap 18 = .ok (.getfield 49, 3) := by decide +kernel
theorem dX10_bothWouldSwap_21 : decode cX10_bothWouldSwap 21 = .ok (.iload_n 1, 1) := by decide +kernel
theorem dX10_bothWouldSwap_22 : decode cX10_bothWouldSwap 22 = .ok (.invokevirtual 181, 3) := by decide +kernel
theorem dX10_bothWouldSwap_25 : decode cX10_bothWouldSwap 25 = .ok (.istore_n 3, 1) := by decide +kernel
theorem dX10_bothWouldSwap_26 : decode cX10_bothWouldSwap 26 = .ok (.aload_n 0, 1) := by decide +kernel
theorem dX10_bothWouldSwap_27 : decode cX10_bothWouldSwap 27 = .ok (.getfield 49, 3) := by decide +kernel
theorem dX10_bothWouldSwap_30 : decode cX10_bothWouldSwap 30 = .ok (.iload_n 2, 1) := by decide +kernel
theorem dX10_bothWouldSwap_31 : decode cX10_bothWouldSwap 31 = .ok (.invokevirtual 181, 3) := by decide +kernel
theorem dX10_bothWouldSwap_34 : decode cX10_bothWouldSwap 34 = .ok (.istore 4, 2) := by decide +kernel
theorem dX10_bothWouldSwap_36 : decode cX10_bothWouldSwap 36 = .ok (.aload_n 0, 1) := by decide +kernel
theorem dX10_bothWouldSwap_37 : decode cX10_bothWouldSwap 37 = .ok (.iload_n 3, 1) := by decide +kernel
theorem dX10_bothWouldSwap_38 : decode cX10_bothWouldSwap 38 = .ok (.iload_n 2, 1) := by decide +kernel
theorem dX10_bothWouldSwap_39 : decode cX10_bothWouldSwap 39 = .ok (.invokevirtual 331, 3) := by decide +kernel
theorem dX10_bothWouldSwap_42 : decode cX10_bothWouldSwap 42 = .ok (.aload_n 0, 1) := by decide +kernel
theorem dX10_bothWouldSwap_43 : decode cX10_bothWouldSwap 43 = .ok (.iload_n 3, 1) := by decide +kernel
theorem dX10_bothWouldSwap_44 : decode cX10_bothWouldSwap 44 = .ok (.iload_n 1, 1) := by decide +kernel
theorem dX10_bothWouldSwap_45 : decode cX10_bothWouldSwap 45 = .ok (.invokevirtual 331, 3) := by decide +kernel
theorem dX10_bothWouldSwap_48 : decode cX10_bothWouldSwap 48 = .ok (.if_icmp .le 24, 3) := by decide +kernel
theorem dX10_bothWouldSwap_51 : decode cX10_bothWouldSwap 51 = .ok (.aload_n 0, 1) := by decide +kernel
theorem dX10_bothWouldSwap_52 : decode cX10_bothWouldSwap 52 = .ok (.iload 4, 2) := by decide +kernel
theorem dX10_bothWouldSwap_54 : decode cX10_bothWouldSwap 54 = .ok (.iload_n 1, 1) := by decide +kernel
theorem dX10_bothWouldSwap_55 : decode cX10_bothWouldSwap 55 = .ok (.invokevirtual 331, 3) := by decide +kernel
theorem dX10_bothWouldSwap_58 : decode cX10_bothWouldSwap 58 = .ok (.aload_n 0, 1) := by decide +kernel
theorem dX10_bothWouldSwap_59 : decode cX10_bothWouldSwap 59 = .ok (.iload 4, 2) := by decide +kernel
theorem dX10_bothWouldSwap_61 : decode cX10_bothWouldSwap 61 = .ok (.iload_n 2, 1) := by decide +kernel
theorem dX10_bothWouldSwap_62 : decode cX10_bothWouldSwap 62 = .ok (.invokevirtual 331, 3) := by decide +kernel
theorem dX10_bothWouldSwap_65 : decode cX10_bothWouldSwap 65 = .ok (.if_icmp .le 7, 3) := by decide +kernel
theorem dX10_bothWouldSwap_68 : decode cX10_bothWouldSwap 68 = .ok (.iconst 1, 1) := by decide +kernel
theorem dX10_bothWouldSwap_69 : decode cX10_bothWouldSwap 69 = .ok (.goto 4, 3) := by decide +kernel
theorem dX10_bothWouldSwap_72 : decode cX10_bothWouldSwap 72 = .ok (.iconst 0, 1) := by decide +kernel
theorem dX10_bothWouldSwap_73 : decode cX10_bothWouldSwap 73 = .ok (.ireturn, 1) := by decide +kernel
theorem dX10_richestBoy_0 : decode cX10_richestBoy 0 = .ok (.iconst 0, 1) := by decide +kernel
theorem dX10_richestBoy_1 : decode cX10_richestBoy 1 = .ok (.istore_n 1, 1) := by decide +kernel
theorem dX10_richestBoy_2 : decode cX10_richestBoy 2 = .ok (.iconst 1, 1) := by decide +kernel
theorem dX10_richestBoy_3 : decode cX10_richestBoy 3 = .ok (.istore_n 2, 1) := by decide +kernel
theorem dX10_richestBoy_4 : decode cX10_richestBoy 4 = .ok (.iload_n 2, 1) := by decide +kernel
theorem dX10_richestBoy_5 : decode cX10_richestBoy 5 = .ok (.aload_n 0, 1) := by decide +kernel
theorem dX10_richestBoy_6 : decode cX10_richestBoy 6 = .ok (.getfield 42, 3) := by decide +kernel
theorem dX10_richestBoy_9 : decode cX10_richestBoy 9 = .ok (.invokevirtual 358, 3) := by decide +kernel
theorem dX10_richestBoy_12 : decode cX10_richestBoy 12 = .ok (.if_icmp .ge 36, 3) := by decide +kernel
theorem dX10_richestBoy_15 : decode cX10_richestBoy 15 = .ok (.aload_n 0, 1) := by decide +kernel
theorem dX10_richestBoy_16 : decode cX10_richestBoy 16 = .ok (.getfield 49, 3) := by decide +kernel
theorem dX10_richestBoy_19 : decode cX10_richestBoy 19 = .ok (.iload_n 2, 1) := by decide +kernel
theorem dX10_richestBoy_20 : decode cX10_richestBoy 20 = .ok (.invokevirtual 169, 3) := by decide +kernel
theorem dX10_richestBoy_23 : decode cX10_richestBoy 23 = .ok (.invokestatic 172, 3) := by decide +kernel
theorem dX10_richestBoy_26 : decode cX10_richestBoy 26 = .ok (.aload_n 0, 1) := by decide +kernel
theorem dX10_richestBoy_27 : decode cX10_richestBoy 27 = .ok (.getfield 49, 3) := by decide +kernel
theorem dX10_richestBoy_30 : decode cX10_richestBoy 30 = .ok (.iload_n 1, 1) := by decide +kernel
theorem dX10_richestBoy_31 : decode cX10_richestBoy 31 = .ok (.invokevirtual 169, 3) := by decide +kernel
theorem dX10_richestBoy_34 : decode cX10_richestBoy 34 = .ok (.invokestatic 172, 3) := by decide +kernel
theorem dX10_richestBoy_37 : decode cX10_richestBoy 37 = .ok (.if_icmp .le 5, 3) := by decide +kernel
theorem dX10_richestBoy_40 : decode cX10_richestBoy 40 = .ok (.iload_n 2, 1) := by decide +kernel
theorem dX10_richestBoy_41 : decode cX10_richestBoy 41 = .ok (.istore_n 1, 1) := by decide +kernel
theorem dX10_richestBoy_42 : decode cX10_richestBoy 42 = .ok (.iinc 2 1, 3) := by decide +kernel
theorem dX10_richestBoy_45 : decode cX10_richestBoy 45 = .ok (.goto (-41), 3) := by decide +kernel
theorem dX10_richestBoy_48 : decode cX10_richestBoy 48 = .ok (.iload_n 1, 1) := by decide +kernel
theorem dX10_richestBoy_49 : decode cX10_richestBoy 49 = .ok (.ireturn, 1) := by decide +kernel
theorem dX10_strongestMarble_0 : decode cX10_strongestMarble 0 = .ok (.iconst (-1), 1) := by decide +kernel
theorem dX10_strongestMarble_1 : decode cX10_strongestMarble 1 = .ok (.istore_n 1, 1) := by decide +kernel
theorem dX10_strongestMarble_2 : decode cX10_strongestMarble 2 = .ok (.iconst 0, 1) := by decide +kernel
theorem dX10_strongestMarble_3 : decode cX10_strongestMarble 3 = .ok (.istore_n 2, 1) := by decide +kernel
theorem dX10_strongestMarble_4 : decode cX10_strongestMarble 4 = .ok (.iload_n 2, 1) := by decide +kernel
theorem dX10_strongestMarble_5 : decode cX10_strongestMarble 5 = .ok (.aload_n 0, 1) := by decide +kernel
theorem dX10_strongestMarble_6 : decode cX10_strongestMarble 6 = .ok (.getfield 42, 3) := by decide +kernel
theorem dX10_strongestMarble_9 : decode cX10_strongestMarble 9 = .ok (.invokevirtual 131, 3) := by decide +kernel
theorem dX10_strongestMarble_12 : decode cX10_strongestMarble 12 = .ok (.if_icmp .ge 46, 3) := by decide +kernel
theorem dX10_strongestMarble_15 : decode cX10_strongestMarble 15 = .ok (.aload_n 0, 1) := by decide +kernel
theorem dX10_strongestMarble_16 : decode cX10_strongestMarble 16 = .ok (.getfield 49, 3) := by decide +kernel
theorem dX10_strongestMarble_19 : decode cX10_strongestMarble 19 = .ok (.iload_n 2, 1) := by decide +kernel
theorem dX10_strongestMarble_20 : decode cX10_strongestMarble 20 = .ok (.invokevirtual 233, 3) := by decide +kernel
theorem dX10_strongestMarble_23 : decode cX10_strongestMarble 23 = .ok (.ifCond .ne 29, 3) := by decide +kernel
theorem dX10_strongestMarble_26 : decode cX10_strongestMarble 26 = .ok (.iload_n 1, 1) := by decide +kernel
theorem dX10_strongestMarble_27 : decode cX10_strongestMarble 27 = .ok (.iconst (-1), 1) := by decide +kernel
theorem dX10_strongestMarble_28 : decode cX10_strongestMarble 28 = .ok (.if_icmp .eq 22, 3) := by decide +kernel
theorem dX10_strongestMarble_31 : decode cX10_strongestMarble 31 = .ok (.aload_n 0, 1) := by decide +kernel
theorem dX10_strongestMarble_32 : decode cX10_strongestMarble 32 = .ok (.getfield 42, 3) := by decide +kernel
theorem dX10_strongestMarble_35 : decode cX10_strongestMarble 35 = .ok (.iload_n 2, 1) := by decide +kernel
theorem dX10_strongestMarble_36 : decode cX10_strongestMarble 36 = .ok (.invokevirtual 187, 3) := by decide +kernel
theorem dX10_strongestMarble_39 : decode cX10_strongestMarble 39 = .ok (.aload_n 0, 1) := by decide +kernel
theorem dX10_strongestMarble_40 : decode cX10_strongestMarble 40 = .ok (.getfield 42, 3) := by decide +kernel
theorem dX10_strongestMarble_43 : decode cX10_strongestMarble 43 = .ok (.iload_n 1, 1) := by decide +kernel
theorem dX10_strongestMarble_44 : decode cX10_strongestMarble 44 = .ok (.invokevirtual 187, 3) := by decide +kernel
theorem dX10_strongestMarble_47 : decode cX10_strongestMarble 47 = .ok (.if_icmp .le 5, 3) := by decide +kernel
theorem dX10_strongestMarble_50 : decode cX10_strongestMarble 50 = .ok (.iload_n 2, 1) := by decide +kernel
theorem dX10_strongestMarble_51 : decode cX10_strongestMarble 51 = .ok (.istore_n 1, 1) := by decide +kernel
theorem dX10_strongestMarble_52 : decode cX10_strongestMarble 52 = .ok (.iinc 2 1, 3) := by decide +kernel
theorem dX10_strongestMarble_55 : decode cX10_strongestMarble 55 = .ok (.goto (-51), 3) := by decide +kernel
theorem dX10_strongestMarble_58 : decode cX10_strongestMarble 58 = .ok (.iload_n 1, 1) := by decide +kernel
theorem dX10_strongestMarble_59 : decode cX10_strongestMarble 59 = .ok (.ireturn, 1) := by decide +kernel
theorem dX10_champion_0 : decode cX10_champion 0 = .ok (.iconst (-1), 1) := by decide +kernel
theorem dX10_champion_1 : decode cX10_champion 1 = .ok (.istore_n 1, 1) := by decide +kernel
theorem dX10_champion_2 : decode cX10_champion 2 = .ok (.iconst 0, 1) := by decide +kernel
theorem dX10_champion_3 : decode cX10_champion 3 = .ok (.istore_n 2, 1) := by decide +kernel
theorem dX10_champion_4 : decode cX10_champion 4 = .ok (.iconst 0, 1) := by decide +kernel
theorem dX10_champion_5 : decode cX10_champion 5 = .ok (.istore_n 3, 1) := by decide +kernel
theorem dX10_champion_6 : decode cX10_champion 6 = .ok (.iload_n 3, 1) := by decide +kernel
theorem dX10_champion_7 : decode cX10_champion 7 = .ok (.aload_n 0, 1) := by decide +kernel
theorem dX10_champion_8 : decode cX10_champion 8 = .ok (.getfield 42, 3) := by decide +kernel
theorem dX10_champion_11 : decode cX10_champion 11 = .ok (.invokevirtual 358, 3) := by decide +kernel
theorem dX10_champion_14 : decode cX10_champion 14 = .ok (.if_icmp .ge 84, 3) := by decide +kernel
theorem dX10_champion_17 : decode cX10_champion 17 = .ok (.aload_n 0, 1) := by decide +kernel
theorem dX10_champion_18 : decode cX10_champion 18 = .ok (.iload_n 3, 1) := by decide +kernel
theorem dX10_champion_19 : decode cX10_champion 19 = .ok (.invokevirtual 395, 3) := by decide +kernel
theorem dX10_champion_22 : decode cX10_champion 22 = .ok (.istore 4, 2) := by decide +kernel
theorem dX10_champion_24 : decode cX10_champion 24 = .ok (.iload 4, 2) := by decide +kernel
theorem dX10_champion_26 : decode cX10_champion 26 = .ok (.iconst (-1), 1) := by decide +kernel
theorem dX10_champion_27 : decode cX10_champion 27 = .ok (.if_icmp .ne 7, 3) := by decide +kernel
theorem dX10_champion_30 : decode cX10_champion 30 = .ok (.iconst (-1), 1) := by decide +kernel
theorem dX10_champion_31 : decode cX10_champion 31 = .ok (.goto 13, 3) := by decide +kernel
theorem dX10_champion_34 : decode cX10_champion 34 = .ok (.aload_n 0, 1) := by decide +kernel
theorem dX10_champion_35 : decode cX10_champion 35 = .ok (.getfield 85, 3) := by decide +kernel
theorem dX10_champion_38 : decode cX10_champion 38 = .ok (.iload_n 3, 1) := by decide +kernel
theorem dX10_champion_39 : decode cX10_champion 39 = .ok (.iload 4, 2) := by decide +kernel
theorem dX10_champion_41 : decode cX10_champion 41 = .ok (.invokevirtual 280, 3) := by decide +kernel
theorem dX10_champion_44 : decode cX10_champion 44 = .ok (.istore 5, 2) := by decide +kernel
theorem dX10_champion_46 : decode cX10_champion 46 = .ok (.iload 5, 2) := by decide +kernel
theorem dX10_champion_48 : decode cX10_champion 48 = .ok (.iconst (-1), 1) := by decide +kernel
theorem dX10_champion_49 : decode cX10_champion 49 = .ok (.if_icmp .ne 6, 3) := by decide +kernel
theorem dX10_champion_52 : decode cX10_champion 52 = .ok (.goto 40, 3) := by decide +kernel
theorem dX10_champion_55 : decode cX10_champion 55 = .ok (.aload_n 0, 1) := by decide +kernel
theorem dX10_champion_56 : decode cX10_champion 56 = .ok (.getfield 85, 3) := by decide +kernel
theorem dX10_champion_59 : decode cX10_champion 59 = .ok (.aload_n 0, 1) := by decide +kernel
theorem dX10_champion_60 : decode cX10_champion 60 = .ok (.getfield 85, 3) := by decide +kernel
theorem dX10_champion_63 : decode cX10_champion 63 = .ok (.iload_n 3, 1) := by decide +kernel
theorem dX10_champion_64 : decode cX10_champion 64 = .ok (.iload 4, 2) := by decide +kernel
theorem dX10_champion_66 : decode cX10_champion 66 = .ok (.iload 5, 2) := by decide +kernel
theorem dX10_champion_68 : decode cX10_champion 68 = .ok (.invokevirtual 276, 3) := by decide +kernel
theorem dX10_champion_71 : decode cX10_champion 71 = .ok (.invokevirtual 398, 3) := by decide +kernel
theorem dX10_champion_74 : decode cX10_champion 74 = .ok (.istore 6, 2) := by decide +kernel
theorem dX10_champion_76 : decode cX10_champion 76 = .ok (.iload_n 1, 1) := by decide +kernel
theorem dX10_champion_77 : decode cX10_champion 77 = .ok (.iconst (-1), 1) := by decide +kernel
theorem dX10_champion_78 : decode cX10_champion 78 = .ok (.if_icmp .eq 9, 3) := by decide +kernel
theorem dX10_champion_81 : decode cX10_champion 81 = .ok (.iload 6, 2) := by decide +kernel
theorem dX10_champion_83 : decode cX10_champion 83 = .ok (.iload_n 2, 1) := by decide +kernel
theorem dX10_champion_84 : decode cX10_champion 84 = .ok (.if_icmp .ge 8, 3) := by decide +kernel
theorem dX10_champion_87 : decode cX10_champion 87 = .ok (.iload_n 3, 1) := by decide +kernel
theorem dX10_champion_88 : decode cX10_champion 88 = .ok (.istore_n 1, 1) := by decide +kernel
theorem dX10_champion_89 : decode cX10_champion 89 = .ok (.iload 6, 2) := by decide +kernel
theorem dX10_champion_91 : decode cX10_champion 91 = .ok (.istore_n 2, 1) := by decide +kernel
theorem dX10_champion_92 : decode cX10_champion 92 = .ok (.iinc 3 1, 3) := by decide +kernel
theorem dX10_champion_95 : decode cX10_champion 95 = .ok (.goto (-89), 3) := by decide +kernel
theorem dX10_champion_98 : decode cX10_champion 98 = .ok (.iload_n 1, 1) := by decide +kernel
theorem dX10_champion_99 : decode cX10_champion 99 = .ok (.ireturn, 1) := by decide +kernel
theorem dX10_greatestOf_0 : decode cX10_greatestOf 0 = .ok (.iconst (-1), 1) := by decide +kernel
theorem dX10_greatestOf_1 : decode cX10_greatestOf 1 = .ok (.istore_n 2, 1) := by decide +kernel
theorem dX10_greatestOf_2 : decode cX10_greatestOf 2 = .ok (.iconst 0, 1) := by decide +kernel
theorem dX10_greatestOf_3 : decode cX10_greatestOf 3 = .ok (.istore_n 3, 1) := by decide +kernel
theorem dX10_greatestOf_4 : decode cX10_greatestOf 4 = .ok (.iload_n 3, 1) := by decide +kernel
theorem dX10_greatestOf_5 : decode cX10_greatestOf 5 = .ok (.aload_n 0, 1) := by decide +kernel
theorem dX10_greatestOf_6 : decode cX10_greatestOf 6 = .ok (.getfield 42, 3) := by decide +kernel
theorem dX10_greatestOf_9 : decode cX10_greatestOf 9 = .ok (.invokevirtual 131, 3) := by decide +kernel
theorem dX10_greatestOf_12 : decode cX10_greatestOf 12 = .ok (.if_icmp .ge 58, 3) := by decide +kernel
theorem dX10_greatestOf_15 : decode cX10_greatestOf 15 = .ok (.aload_n 0, 1) := by decide +kernel
theorem dX10_greatestOf_16 : decode cX10_greatestOf 16 = .ok (.getfield 49, 3) := by decide +kernel
theorem dX10_greatestOf_19 : decode cX10_greatestOf 19 = .ok (.iload_n 3, 1) := by decide +kernel
theorem dX10_greatestOf_20 : decode cX10_greatestOf 20 = .ok (.invokevirtual 181, 3) := by decide +kernel
theorem dX10_greatestOf_23 : decode cX10_greatestOf 23 = .ok (.iload_n 1, 1) := by decide +kernel
theorem dX10_greatestOf_24 : decode cX10_greatestOf 24 = .ok (.if_icmp .ne 40, 3) := by decide +kernel
theorem dX10_greatestOf_27 : decode cX10_greatestOf 27 = .ok (.aload_n 0, 1) := by decide +kernel
theorem dX10_greatestOf_28 : decode cX10_greatestOf 28 = .ok (.getfield 49, 3) := by decide +kernel
theorem dX10_greatestOf_31 : decode cX10_greatestOf 31 = .ok (.iload_n 3, 1) := by decide +kernel
theorem dX10_greatestOf_32 : decode cX10_greatestOf 32 = .ok (.invokevirtual 192, 3) := by decide +kernel
theorem dX10_greatestOf_35 : decode cX10_greatestOf 35 = .ok (.ifCond .ne 29, 3) := by decide +kernel
theorem dX10_greatestOf_38 : decode cX10_greatestOf 38 = .ok (.iload_n 2, 1) := by decide +kernel
theorem dX10_greatestOf_39 : decode cX10_greatestOf 39 = .ok (.iconst (-1), 1) := by decide +kernel
theorem dX10_greatestOf_40 : decode cX10_greatestOf 40 = .ok (.if_icmp .eq 22, 3) := by decide +kernel
theorem dX10_greatestOf_43 : decode cX10_greatestOf 43 = .ok (.aload_n 0, 1) := by decide +kernel
theorem dX10_greatestOf_44 : decode cX10_greatestOf 44 = .ok (.getfield 42, 3) := by decide +kernel
theorem dX10_greatestOf_47 : decode cX10_greatestOf 47 = .ok (.iload_n 3, 1) := by decide +kernel
theorem dX10_greatestOf_48 : decode cX10_greatestOf 48 = .ok (.invokevirtual 187, 3) := by decide +kernel
theorem dX10_greatestOf_51 : decode cX10_greatestOf 51 = .ok (.aload_n 0, 1) := by decide +kernel
theorem dX10_greatestOf_52 : decode cX10_greatestOf 52 = .ok (.getfield 42, 3) := by decide +kernel
theorem dX10_greatestOf_55 : decode cX10_greatestOf 55 = .ok (.iload_n 2, 1) := by decide +kernel
theorem dX10_greatestOf_56 : decode cX10_greatestOf 56 = .ok (.invokevirtual 187, 3) := by decide +kernel
theorem dX10_greatestOf_59 : decode cX10_greatestOf 59 = .ok (.if_icmp .le 5, 3) := by decide +kernel
theorem dX10_greatestOf_62 : decode cX10_greatestOf 62 = .ok (.iload_n 3, 1) := by decide +kernel
theorem dX10_greatestOf_63 : decode cX10_greatestOf 63 = .ok (.istore_n 2, 1) := by decide +kernel
theorem dX10_greatestOf_64 : decode cX10_greatestOf 64 = .ok (.iinc 3 1, 3) := by decide +kernel
theorem dX10_greatestOf_67 : decode cX10_greatestOf 67 = .ok (.goto (-63), 3) := by decide +kernel
theorem dX10_greatestOf_70 : decode cX10_greatestOf 70 = .ok (.iload_n 2, 1) := by decide +kernel
theorem dX10_greatestOf_71 : decode cX10_greatestOf 71 = .ok (.ireturn, 1) := by decide +kernel
theorem dX11_in_0 : decode cX11_in 0 = .ok (.iload_n 0, 1) := by decide +kernel
theorem dX11_in_1 : decode cX11_in 1 = .ok (.iload_n 1, 1) := by decide +kernel
theorem dX11_in_2 : decode cX11_in 2 = .ok (.if_icmp .lt 12, 3) := by decide +kernel
theorem dX11_in_5 : decode cX11_in 5 = .ok (.iload_n 0, 1) := by decide +kernel
theorem dX11_in_6 : decode cX11_in 6 = .ok (.iload_n 2, 1) := by decide +kernel
theorem dX11_in_7 : decode cX11_in 7 = .ok (.if_icmp .gt 7, 3) := by decide +kernel
theorem dX11_in_10 : decode cX11_in 10 = .ok (.iconst 1, 1) := by decide +kernel
theorem dX11_in_11 : decode cX11_in 11 = .ok (.goto 4, 3) := by decide +kernel
theorem dX11_in_14 : decode cX11_in 14 = .ok (.iconst 0, 1) := by decide +kernel
theorem dX11_in_15 : decode cX11_in 15 = .ok (.ireturn, 1) := by decide +kernel
theorem dX11_has_0 : decode cX11_has 0 = .ok (.iload_n 0, 1) := by decide +kernel
theorem dX11_has_1 : decode cX11_has 1 = .ok (.iload_n 1, 1) := by decide +kernel
theorem dX11_has_2 : decode cX11_has 2 = .ok (.ishr, 1) := by decide +kernel
theorem dX11_has_3 : decode cX11_has 3 = .ok (.iconst 1, 1) := by decide +kernel
theorem dX11_has_4 : decode cX11_has 4 = .ok (.iand, 1) := by decide +kernel
theorem dX11_has_5 : decode cX11_has 5 = .ok (.iconst 1, 1) := by decide +kernel
theorem dX11_has_6 : decode cX11_has 6 = .ok (.if_icmp .ne 7, 3) := by decide +kernel
theorem dX11_has_9 : decode cX11_has 9 = .ok (.iconst 1, 1) := by decide +kernel
theorem dX11_has_10 : decode cX11_has 10 = .ok (.goto 4, 3) := by decide +kernel
theorem dX11_has_13 : decode cX11_has 13 = .ok (.iconst 0, 1) := by decide +kernel
theorem dX11_has_14 : decode cX11_has 14 = .ok (.ireturn, 1) := by decide +kernel
theorem dX11_init_0 : decode cX11_init 0 = .ok (.aload_n 0, 1) := by decide +kernel
theorem dX11_init_1 : decode cX11_init 1 = .ok (.invokespecial 3, 3) := by decide +kernel
theorem dX11_init_4 : decode cX11_init 4 = .ok (.aload_n 0, 1) := by decide +kernel
theorem dX11_init_5 : decode cX11_init 5 = .ok (.sipush 240, 3) := by decide +kernel
theorem dX11_init_8 : decode cX11_init 8 = .ok (.newarray .int, 2) := by decide +kernel
theorem dX11_init_10 : decode cX11_init 10 = .ok (.putfield 9, 3) := by decide +kernel
theorem dX11_init_13 : decode cX11_init 13 = .ok (.aload_n 0, 1) := by decide +kernel
theorem dX11_init_14 : decode cX11_init 14 = .ok (.sipush 2600, 3) := by decide +kernel
theorem dX11_init_17 : decode cX11_init 17 = .ok (.newarray .int, 2) := by decide +kernel
theorem dX11_init_19 : decode cX11_init 19 = .ok (.putfield 13, 3) := by decide +kernel
theorem dX11_init_22 : decode cX11_init 22 = .ok (.aload_n 0, 1) := by decide +kernel
theorem dX11_init_23 : decode cX11_init 23 = .ok (.sipush 2600, 3) := by decide +kernel
theorem dX11_init_26 : decode cX11_init 26 = .ok (.newarray .int, 2) := by decide +kernel
theorem dX11_init_28 : decode cX11_init 28 = .ok (.putfield 16, 3) := by decide +kernel
theorem dX11_init_31 : decode cX11_init 31 = .ok (.aload_n 0, 1) := by decide +kernel
theorem dX11_init_32 : decode cX11_init 32 = .ok (.iconst 5, 1) := by decide +kernel
theorem dX11_init_33 : decode cX11_init 33 = .ok (.newarray .int, 2) := by decide +kernel
theorem dX11_init_35 : decode cX11_init 35 = .ok (.putfield 19, 3) := by decide +kernel
theorem dX11_init_38 : decode cX11_init 38 = .ok (.aload_n 0, 1) := by decide +kernel
theorem dX11_init_39 : decode cX11_init 39 = .ok (.iconst 5, 1) := by decide +kernel
theorem dX11_init_40 : decode cX11_init 40 = .ok (.newarray .int, 2) := by decide +kernel
theorem dX11_init_42 : decode cX11_init 42 = .ok (.putfield 22, 3) := by decide +kernel
theorem dX11_init_45 : decode cX11_init 45 = .ok (.aload_n 0, 1) := by decide +kernel
theorem dX11_init_46 : decode cX11_init 46 = .ok (.sipush 700, 3) := by decide +kernel
theorem dX11_init_49 : decode cX11_init 49 = .ok (.newarray .int, 2) := by decide +kernel
theorem dX11_init_51 : decode cX11_init 51 = .ok (.putfield 25, 3) := by decide +kernel
theorem dX11_init_54 : decode cX11_init 54 = .ok (.aload_n 0, 1) := by decide +kernel
theorem dX11_init_55 : decode cX11_init 55 = .ok (.sipush 700, 3) := by decide +kernel
theorem dX11_init_58 : decode cX11_init 58 = .ok (.newarray .int, 2) := by decide +kernel
theorem dX11_init_60 : decode cX11_init 60 = .ok (.putfield 28, 3) := by decide +kernel
theorem dX11_init_63 : decode cX11_init 63 = .ok (.aload_n 0, 1) := by decide +kernel
theorem dX11_init_64 : decode cX11_init 64 = .ok (.sipush 700, 3) := by decide +kernel
theorem dX11_init_67 : decode cX11_init 67 = .ok (.newarray .int, 2) := by decide +kernel
theorem dX11_init_69 : decode cX11_init 69 = .ok (.putfield 31, 3) := by decide +kernel
theorem dX11_init_72 : decode cX11_init 72 = .ok (.aload_n 0, 1) := by decide +kernel
theorem dX11_init_73 : decode cX11_init 73 = .ok (.bipush 6, 2) := by decide +kernel
theorem dX11_init_75 : decode cX11_init 75 = .ok (.newarray .int, 2) := by decide +kernel
theorem dX11_init_77 : decode cX11_init 77 = .ok (.putfield 34, 3) := by decide +kernel
theorem dX11_init_80 : decode cX11_init 80 = .ok (.aload_n 0, 1) := by decide +kernel
theorem dX11_init_81 : decode cX11_init 81 = .ok (.bipush 80, 2) := by decide +kernel
theorem dX11_init_83 : decode cX11_init 83 = .ok (.newarray .int, 2) := by decide +kernel
theorem dX11_init_85 : decode cX11_init 85 = .ok (.putfield 37, 3) := by decide +kernel
theorem dX11_init_88 : decode cX11_init 88 = .ok (.aload_n 0, 1) := by decide +kernel
theorem dX11_init_89 : decode cX11_init 89 = .ok (.iconst 3, 1) := by decide +kernel
theorem dX11_init_90 : decode cX11_init 90 = .ok (.newarray .int, 2) := by decide +kernel
theorem dX11_init_92 : decode cX11_init 92 = .ok (.putfield 40, 3) := by decide +kernel
theorem dX11_init_95 : decode cX11_init 95 = .ok (.aload_n 0, 1) := by decide +kernel
theorem dX11_init_96 : decode cX11_init 96 = .ok (.bipush 10, 2) := by decide +kernel
theorem dX11_init_98 : decode cX11_init 98 = .ok (.newarray .int, 2) := by decide +kernel
theorem dX11_init_100 : decode cX11_init 100 = .ok (.putfield 43, 3) := by decide +kernel
theorem dX11_init_103 : decode cX11_init 103 = .ok (.aload_n 0, 1) := by decide +kernel
theorem dX11_init_104 : decode cX11_init 104 = .ok (.bipush 18, 2) := by decide +kernel
theorem dX11_init_106 : decode cX11_init 106 = .ok (.newarray .int, 2) := by decide +kernel
theorem dX11_init_108 : decode cX11_init 108 = .ok (.putfield 46, 3) := by decide +kernel
theorem dX11_init_111 : decode cX11_init 111 = .ok (.aload_n 0, 1) := by decide +kernel
theorem dX11_init_112 : decode cX11_init 112 = .ok (.bipush 18, 2) := by decide +kernel
theorem dX11_init_114 : decode cX11_init 114 = .ok (.newarray .int, 2) := by decide +kernel
theorem dX11_init_116 : decode cX11_init 116 = .ok (.putfield 49, 3) := by decide +kernel
theorem dX11_init_119 : decode cX11_init 119 = .ok (.aload_n 0, 1) := by decide +kernel
theorem dX11_init_120 : decode cX11_init 120 = .ok (.iconst 3, 1) := by decide +kernel
theorem dX11_init_121 : decode cX11_init 121 = .ok (.newarray .int, 2) := by decide +kernel
theorem dX11_init_123 : decode cX11_init 123 = .ok (.putfield 52, 3) := by decide +kernel
theorem dX11_init_126 : decode cX11_init 126 = .ok (.aload_n 0, 1) := by decide +kernel
theorem dX11_init_127 : decode cX11_init 127 = .ok (.bipush 10, 2) := by decide +kernel
theorem dX11_init_129 : decode cX11_init 129 = .ok (.newarray .int, 2) := by decide +kernel
theorem dX11_init_131 : decode cX11_init 131 = .ok (.putfield 55, 3) := by decide +kernel
theorem dX11_init_134 : decode cX11_init 134 = .ok (.aload_n 0, 1) := by decide +kernel
theorem dX11_init_135 : decode cX11_init 135 = .ok (.bipush 18, 2) := by decide +kernel
theorem dX11_init_137 : decode cX11_init 137 = .ok (.newarray .int, 2) := by decide +kernel
theorem dX11_init_139 : decode cX11_init 139 = .ok (.putfield 58, 3) := by decide +kernel
theorem dX11_init_142 : decode cX11_init 142 = .ok (.aload_n 0, 1) := by decide +kernel
theorem dX11_init_143 : decode cX11_init 143 = .ok (.bipush 18, 2) := by decide +kernel
theorem dX11_init_145 : decode cX11_init 145 = .ok (.newarray .int, 2) := by decide +kernel
theorem dX11_init_147 : decode cX11_init 147 = .ok (.putfield 61, 3) := by decide +kernel
theorem dX11_init_150 : decode cX11_init 150 = .ok (.aload_n 0, 1) := by decide +kernel
theorem dX11_init_151 : decode cX11_init 151 = .ok (.sipush 131, 3) := by decide +kernel
theorem dX11_init_154 : decode cX11_init 154 = .ok (.newarray .int, 2) := by decide +kernel
theorem dX11_init_156 : decode cX11_init 156 = .ok (.putfield 64, 3) := by decide +kernel
theorem dX11_init_159 : decode cX11_init 159 = .ok (.aload_n 0, 1) := by decide +kernel
theorem dX11_init_160 : decode cX11_init 160 = .ok (.iconst 5, 1) := by decide +kernel
theorem dX11_init_161 : decode cX11_init 161 = .ok (.newarray .int, 2) := by decide +kernel
theorem dX11_init_163 : decode cX11_init 163 = .ok (.putfield 67, 3) := by decide +kernel
theorem dX11_init_166 : decode cX11_init 166 = .ok (.aload_n 0, 1) := by decide +kernel
theorem dX11_init_167 : decode cX11_init 167 = .ok (.iconst (-1), 1) := by decide +kernel
theorem dX11_init_168 : decode cX11_init 168 = .ok (.putfield 70, 3) := by decide +kernel
theorem dX11_init_171 : decode cX11_init 171 = .ok (.aload_n 0, 1) := by decide +kernel
theorem dX11_init_172 : decode cX11_init 172 = .ok (.sipush 5240, 3) := by decide +kernel
theorem dX11_init_175 : decode cX11_init 175 = .ok (.newarray .int, 2) := by decide +kernel
theorem dX11_init_177 : decode cX11_init 177 = .ok (.putfield 74, 3) := by decide +kernel
theorem dX11_init_180 : decode cX11_init 180 = .ok (.aload_n 0, 1) := by decide +kernel
theorem dX11_init_181 : decode cX11_init 181 = .ok (.bipush 10, 2) := by decide +kernel
theorem dX11_init_183 : decode cX11_init 183 = .ok (.newarray .int, 2) := by decide +kernel
theorem dX11_init_185 : decode cX11_init 185 = .ok (.putfield 77, 3) := by decide +kernel
theorem dX11_init_188 : decode cX11_init 188 = .ok (.aload_n 0, 1) := by decide +kernel
theorem dX11_init_189 : decode cX11_init 189 = .ok (.bipush 10, 2) := by decide +kernel
theorem dX11_init_191 : decode cX11_init 191 = .ok (.newarray .int, 2) := by decide +kernel
theorem dX11_init_193 : decode cX11_init 193 = .ok (.putfield 80, 3) := by decide +kernel
theorem dX11_init_196 : decode cX11_init 196 = .ok (.aload_n 0, 1) := by decide +kernel
theorem dX11_init_197 : decode cX11_init 197 = .ok (.bipush 10, 2) := by decide +kernel
theorem dX11_init_199 : decode cX11_init 199 = .ok (.newarray .boolean, 2) := by decide +kernel
theorem dX11_init_201 : decode cX11_init 201 = .ok (.putfield 83, 3) := by decide +kernel
theorem dX11_init_204 : decode cX11_init 204 = .ok (.aload_n 0, 1) := by decide +kernel
theorem dX11_init_205 : decode cX11_init 205 = .ok (.bipush 70, 2) := by decide +kernel
theorem dX11_init_207 : decode cX11_init 207 = .ok (.newarray .int, 2) := by decide +kernel
theorem dX11_init_209 : decode cX11_init 209 = .ok (.putfield 87, 3) := by decide +kernel
theorem dX11_init_212 : decode cX11_init 212 = .ok (.aload_n 0, 1) := by decide +kernel
theorem dX11_init_213 : decode cX11_init 213 = .ok (.sipush 131, 3) := by decide +kernel
theorem dX11_init_216 : decode cX11_init 216 = .ok (.newarray .int, 2) := by decide +kernel
theorem dX11_init_218 : decode cX11_init 218 = .ok (.putfield 90, 3) := by decide +kernel
theorem dX11_init_221 : decode cX11_init 221 = .ok (.return_, 1) := by decide +kernel
theorem dX11_thrown_0 : decode cX11_thrown 0 = .ok (.aload_n 0, 1) := by decide +kernel
theorem dX11_thrown_1 : decode cX11_thrown 1 = .ok (.getfield 93, 3) := by decide +kernel
theorem dX11_thrown_4 : decode cX11_thrown 4 = .ok (.ireturn, 1) := by decide +kernel
theorem dX11_byteOf_0 : decode cX11_byteOf 0 = .ok (.iload 5, 2) := by decide +kernel
theorem dX11_byteOf_2 : decode cX11_byteOf 2 = .ok (.iconst 4, 1) := by decide +kernel
theorem dX11_byteOf_3 : decode cX11_byteOf 3 = .ok (.if_icmp .ge 7, 3) := by decide +kernel
theorem dX11_byteOf_6 : decode cX11_byteOf 6 = .ok (.iload_n 0, 1) := by decide +kernel
theorem dX11_byteOf_7 : decode cX11_byteOf 7 = .ok (.goto 38, 3) := by decide +kernel
theorem dX11_byteOf_10 : decode cX11_byteOf 10 = .ok (.iload 5, 2) := by decide +kernel
theorem dX11_byteOf_12 : decode cX11_byteOf 12 = .ok (.bipush 8, 2) := by decide +kernel
theorem dX11_byteOf_14 : decode cX11_byteOf 14 = .ok (.if_icmp .ge 7, 3) := by decide +kernel
theorem dX11_byteOf_17 : decode cX11_byteOf 17 = .ok (.iload_n 1, 1) := by decide +kernel
theorem dX11_byteOf_18 : decode cX11_byteOf 18 = .ok (.goto 27, 3) := by decide +kernel
theorem dX11_byteOf_21 : decode cX11_byteOf 21 = .ok (.iload 5, 2) := by decide +kernel
theorem dX11_byteOf_23 : decode cX11_byteOf 23 = .ok (.bipush 12, 2) := by decide +kernel
theorem dX11_byteOf_25 : decode cX11_byteOf 25 = .ok (.if_icmp .ge 7, 3) := by decide +kernel
theorem dX11_byteOf_28 : decode cX11_byteOf 28 = .ok (.iload_n 2, 1) := by decide +kernel
theorem dX11_byteOf_29 : decode cX11_byteOf 29 = .ok (.goto 16, 3) := by decide +kernel
theorem dX11_byteOf_32 : decode cX11_byteOf 32 = .ok (.iload 5, 2) := by decide +kernel
theorem dX11_byteOf_34 : decode cX11_byteOf 34 = .ok (.bipush 16, 2) := by decide +kernel
theorem dX11_byteOf_36 : decode cX11_byteOf 36 = .ok (.if_icmp .ge 7, 3) := by decide +kernel
theorem dX11_byteOf_39 : decode cX11_byteOf 39 = .ok (.iload_n 3, 1) := by decide +kernel
theorem dX11_byteOf_40 : decode cX11_byteOf 40 = .ok (.goto 5, 3) := by decide +kernel
theorem dX11_byteOf_43 : decode cX11_byteOf 43 = .ok (.iload 4, 2) := by decide +kernel
theorem dX11_byteOf_45 : decode cX11_byteOf 45 = .ok (.istore 6, 2) := by decide +kernel
theorem dX11_byteOf_47 : decode cX11_byteOf 47 = .ok (.iload 6, 2) := by decide +kernel
theorem dX11_byteOf_49 : decode cX11_byteOf 49 = .ok (.bipush 24, 2) := by decide +kernel
theorem dX11_byteOf_51 : decode cX11_byteOf 51 = .ok (.bipush 8, 2) := by decide +kernel
theorem dX11_byteOf_53 : decode cX11_byteOf 53 = .ok (.iload 5, 2) := by decide +kernel
theorem dX11_byteOf_55 : decode cX11_byteOf 55 = .ok (.iconst 4, 1) := by decide +kernel
theorem dX11_byteOf_56 : decode cX11_byteOf 56 = .ok (.irem, 1) := by decide +kernel
theorem dX11_byteOf_57 : decode cX11_byteOf 57 = .ok (.imul, 1) := by decide +kernel
theorem dX11_byteOf_58 : decode cX11_byteOf 58 = .ok (.isub, 1) := by decide +kernel
theorem dX11_byteOf_59 : decode cX11_byteOf 59 = .ok (.ishr, 1) := by decide +kernel
theorem dX11_byteOf_60 : decode cX11_byteOf 60 = .ok (.sipush 255, 3) := by decide +kernel
theorem dX11_byteOf_63 : decode cX11_byteOf 63 = .ok (.iand, 1) := by decide +kernel
theorem dX11_byteOf_64 : decode cX11_byteOf 64 = .ok (.ireturn, 1) := by decide +kernel
theorem dX11_feed_0 : decode cX11_feed 0 = .ok (.iconst 0, 1) := by decide +kernel
theorem dX11_feed_1 : decode cX11_feed 1 = .ok (.istore 6, 2) := by decide +kernel
theorem dX11_feed_3 : decode cX11_feed 3 = .ok (.iconst 0, 1) := by decide +kernel
theorem dX11_feed_4 : decode cX11_feed 4 = .ok (.istore 7, 2) := by decide +kernel
theorem dX11_feed_6 : decode cX11_feed 6 = .ok (.iload 7, 2) := by decide +kernel
theorem dX11_feed_8 : decode cX11_feed 8 = .ok (.bipush 20, 2) := by decide +kernel
theorem dX11_feed_10 : decode cX11_feed 10 = .ok (.if_icmp .ge 34, 3) := by decide +kernel
theorem dX11_feed_13 : decode cX11_feed 13 = .ok (.iload 6, 2) := by decide +kernel
theorem dX11_feed_15 : decode cX11_feed 15 = .ok (.iload_n 1, 1) := by decide +kernel
theorem dX11_feed_16 : decode cX11_feed 16 = .ok (.iload_n 2, 1) := by decide +kernel
theorem dX11_feed_17 : decode cX11_feed 17 = .ok (.iload_n 3, 1) := by decide +kernel
theorem dX11_feed_18 : decode cX11_feed 18 = .ok (.iload 4, 2) := by decide +kernel
theorem dX11_feed_20 : decode cX11_feed 20 = .ok (.iload 5, 2) := by decide +kernel
theorem dX11_feed_22 : decode cX11_feed 22 = .ok (.iload 7, 2) := by decide +kernel
theorem dX11_feed_24 : decode cX11_feed 24 = .ok (.invokestatic 96, 3) := by decide +kernel
theorem dX11_feed_27 : decode cX11_feed 27 = .ok (.ifCond .eq 7, 3) := by decide +kernel
theorem dX11_feed_30 : decode cX11_feed 30 = .ok (.iconst 1, 1) := by decide +kernel
theorem dX11_feed_31 : decode cX11_feed 31 = .ok (.goto 4, 3) := by decide +kernel
theorem dX11_feed_34 : decode cX11_feed 34 = .ok (.iconst 0, 1) := by decide +kernel
theorem dX11_feed_35 : decode cX11_feed 35 = .ok (.iadd, 1) := by decide +kernel
theorem dX11_feed_36 : decode cX11_feed 36 = .ok (.istore 6, 2) := by decide +kernel
theorem dX11_feed_38 : decode cX11_feed 38 = .ok (.iinc 7 1, 3) := by decide +kernel
theorem dX11_feed_41 : decode cX11_feed 41 = .ok (.goto (-35), 3) := by decide +kernel
theorem dX11_feed_44 : decode cX11_feed 44 = .ok (.aload_n 0, 1) := by decide +kernel
theorem dX11_feed_45 : decode cX11_feed 45 = .ok (.getfield 100, 3) := by decide +kernel
theorem dX11_feed_48 : decode cX11_feed 48 = .ok (.iload 6, 2) := by decide +kernel
theorem dX11_feed_50 : decode cX11_feed 50 = .ok (.iadd, 1) := by decide +kernel
theorem dX11_feed_51 : decode cX11_feed 51 = .ok (.sipush 240, 3) := by decide +kernel
theorem dX11_feed_54 : decode cX11_feed 54 = .ok (.if_icmp .le 5, 3) := by decide +kernel
theorem dX11_feed_57 : decode cX11_feed 57 = .ok (.iconst (-1), 1) := by decide +kernel
theorem dX11_feed_58 : decode cX11_feed 58 = .ok (.ireturn, 1) := by decide +kernel
theorem dX11_feed_59 : decode cX11_feed 59 = .ok (.iconst 0, 1) := by decide +kernel
theorem dX11_feed_60 : decode cX11_feed 60 = .ok (.istore 7, 2) := by decide +kernel
theorem dX11_feed_62 : decode cX11_feed 62 = .ok (.iload 7, 2) := by decide +kernel
theorem dX11_feed_64 : decode cX11_feed 64 = .ok (.bipush 20, 2) := by decide +kernel
theorem dX11_feed_66 : decode cX11_feed 66 = .ok (.if_icmp .ge 49, 3) := by decide +kernel
theorem dX11_feed_69 : decode cX11_feed 69 = .ok (.iload_n 1, 1) := by decide +kernel
theorem dX11_feed_70 : decode cX11_feed 70 = .ok (.iload_n 2, 1) := by decide +kernel
theorem dX11_feed_71 : decode cX11_feed 71 = .ok (.iload_n 3, 1) := by decide +kernel
theorem dX11_feed_72 : decode cX11_feed 72 = .ok (.iload 4, 2) := by decide +kernel
theorem dX11_feed_74 : decode cX11_feed 74 = .ok (.iload 5, 2) := by decide +kernel
theorem dX11_feed_76 : decode cX11_feed 76 = .ok (.iload 7, 2) := by decide +kernel
theorem dX11_feed_78 : decode cX11_feed 78 = .ok (.invokestatic 96, 3) := by decide +kernel
theorem dX11_feed_81 : decode cX11_feed 81 = .ok (.istore 8, 2) := by decide +kernel
theorem dX11_feed_83 : decode cX11_feed 83 = .ok (.iload 8, 2) := by decide +kernel
theorem dX11_feed_85 : decode cX11_feed 85 = .ok (.ifCond .eq 24, 3) := by decide +kernel
theorem dX11_feed_88 : decode cX11_feed 88 = .ok (.aload_n 0, 1) := by decide +kernel
theorem dX11_feed_89 : decode cX11_feed 89 = .ok (.getfield 9, 3) := by decide +kernel
theorem dX11_feed_92 : decode cX11_feed 92 = .ok (.aload_n 0, 1) := by decide +kernel
theorem dX11_feed_93 : decode cX11_feed 93 = .ok (.getfield 100, 3) := by decide +kernel
theorem dX11_feed_96 : decode cX11_feed 96 = .ok (.iload 8, 2) := by decide +kernel
theorem dX11_feed_98 : decode cX11_feed 98 = .ok (.iastore, 1) := by decide +kernel
theorem dX11_feed_99 : decode cX11_feed 99 = .ok (.aload_n 0, 1) := by decide +kernel
theorem dX11_feed_100 : decode cX11_feed 100 = .ok (.dup, 1) := by decide +kernel
theorem dX11_feed_101 : decode cX11_feed 101 = .ok (.getfield 100, 3) := by decide +kernel
theorem dX11_feed_104 : decode cX11_feed 104 = .ok (.iconst 1, 1) := by decide +kernel
theorem dX11_feed_105 : decode cX11_feed 105 = .ok (.iadd, 1) := by decide +kernel
theorem dX11_feed_106 : decode cX11_feed 106 = .ok (.putfield 100, 3) := by decide +kernel
theorem dX11_feed_109 : decode cX11_feed 109 = .ok (.iinc 7 1, 3) := by decide +kernel
theorem dX11_feed_112 : decode cX11_feed 112 = .ok (.goto (-50), 3) := by decide +kernel
theorem dX11_feed_115 : decode cX11_feed 115 = .ok (.aload_n 0, 1) := by decide +kernel
theorem dX11_feed_116 : decode cX11_feed 116 = .ok (.getfield 100, 3) := by decide +kernel
theorem dX11_feed_119 : decode cX11_feed 119 = .ok (.ireturn, 1) := by decide +kernel
theorem dX11_end_0 : decode cX11_end 0 = .ok (.iload_n 1, 1) := by decide +kernel
theorem dX11_end_1 : decode cX11_end 1 = .ok (.ifCond .lt 11, 3) := by decide +kernel
theorem dX11_end_4 : decode cX11_end 4 = .ok (.iload_n 1, 1) := by decide +kernel
theorem dX11_end_5 : decode cX11_end 5 = .ok (.aload_n 0, 1) := by decide +kernel
theorem dX11_end_6 : decode cX11_end 6 = .ok (.getfield 100, 3) := by decide +kernel
theorem dX11_end_9 : decode cX11_end 9 = .ok (.if_icmp .le 5, 3) := by decide +kernel
theorem dX11_end_12 : decode cX11_end 12 = .ok (.iconst 0, 1) := by decide +kernel
theorem dX11_end_13 : decode cX11_end 13 = .ok (.ireturn, 1) := by decide +kernel
theorem dX11_end_14 : decode cX11_end 14 = .ok (.aload_n 0, 1) := by decide +kernel
theorem dX11_end_15 : decode cX11_end 15 = .ok (.iload_n 1, 1) := by decide +kernel
theorem dX11_end_16 : decode cX11_end 16 = .ok (.putfield 100, 3) := by decide +kernel
theorem dX11_end_19 : decode cX11_end 19 = .ok (.iconst 1, 1) := by decide +kernel
theorem dX11_end_20 : decode cX11_end 20 = .ok (.ireturn, 1) := by decide +kernel
theorem dX11_here_0 : decode cX11_here 0 = .ok (.aload_n 0, 1) := by decide +kernel
theorem dX11_here_1 : decode cX11_here 1 = .ok (.getfield 103, 3) := by decide +kernel
theorem dX11_here_4 : decode cX11_here 4 = .ok (.aload_n 0, 1) := by decide +kernel
theorem dX11_here_5 : decode cX11_here 5 = .ok (.getfield 100, 3) := by decide +kernel
theorem dX11_here_8 : decode cX11_here 8 = .ok (.if_icmp .ge 15, 3) := by decide +kernel
theorem dX11_here_11 : decode cX11_here 11 = .ok (.aload_n 0, 1) := by decide +kernel
theorem dX11_here_12 : decode cX11_here 12 = .ok (.getfield 9, 3) := by decide +kernel
theorem dX11_here_15 : decode cX11_here 15 = .ok (.aload_n 0, 1) := by decide +kernel
theorem dX11_here_16 : decode cX11_here 16 = .ok (.getfield 103, 3) := by decide +kernel
theorem dX11_here_19 : decode cX11_here 19 = .ok (.iaload, 1) := by decide +kernel
theorem dX11_here_20 : decode cX11_here 20 = .ok (.goto 4, 3) := by decide +kernel
theorem dX11_here_23 : decode cX11_here 23 = .ok (.iconst (-1), 1) := by decide +kernel
theorem dX11_here_24 : decode cX11_here 24 = .ok (.ireturn, 1) := by decide +kernel
theorem dX11_look_0 : decode cX11_look 0 = .ok (.aload_n 0, 1) := by decide +kernel
theorem dX11_look_1 : decode cX11_look 1 = .ok (.invokevirtual 106, 3) := by decide +kernel
theorem dX11_look_4 : decode cX11_look 4 = .ok (.bipush 32, 2) := by decide +kernel
theorem dX11_look_6 : decode cX11_look 6 = .ok (.if_icmp .ne 16, 3) := by decide +kernel
theorem dX11_look_9 : decode cX11_look 9 = .ok (.aload_n 0, 1) := by decide +kernel
theorem dX11_look_10 : decode cX11_look 10 = .ok (.dup, 1) := by decide +kernel
theorem dX11_look_11 : decode cX11_look 11 = .ok (.getfield 103, 3) := by decide +kernel
theorem dX11_look_14 : decode cX11_look 14 = .ok (.iconst 1, 1) := by decide +kernel
theorem dX11_look_15 : decode cX11_look 15 = .ok (.iadd, 1) := by decide +kernel
theorem dX11_look_16 : decode cX11_look 16 = .ok (.putfield 103, 3) := by decide +kernel
theorem dX11_look_19 : decode cX11_look 19 = .ok (.goto (-19), 3) := by decide +kernel
theorem dX11_look_22 : decode cX11_look 22 = .ok (.aload_n 0, 1) := by decide +kernel
theorem dX11_look_23 : decode cX11_look 23 = .ok (.invokevirtual 106, 3) := by decide +kernel
theorem dX11_look_26 : decode cX11_look 26 = .ok (.ireturn, 1) := by decide +kernel
theorem dX11_bad_0 : decode cX11_bad 0 = .ok (.aload_n 0, 1) := by decide +kernel
theorem dX11_bad_1 : decode cX11_bad 1 = .ok (.aload_n 0, 1) := by decide +kernel
theorem dX11_bad_2 : decode cX11_bad 2 = .ok (.getfield 110, 3) := by decide +kernel
theorem dX11_bad_5 : decode cX11_bad 5 = .ok (.iconst (-1), 1) := by decide +kernel
theorem dX11_bad_6 : decode cX11_bad 6 = .ok (.if_icmp .ne 10, 3) := by decide +kernel
theorem dX11_bad_9 : decode cX11_bad 9 = .ok (.aload_n 0, 1) := by decide +kernel
theorem dX11_bad_10 : decode cX11_bad 10 = .ok (.getfield 103, 3) := by decide +kernel
theorem dX11_bad_13 : decode cX11_bad 13 = .ok (.goto 7, 3) := by decide +kernel
theorem dX11_bad_16 : decode cX11_bad 16 = .ok (.aload_n 0, 1) := by decide +kernel
theorem dX11_bad_17 : decode cX11_bad 17 = .ok (.getfield 110, 3) := by decide +kernel
theorem dX11_bad_20 : decode cX11_bad 20 = .ok (.putfield 110, 3) := by decide +kernel
theorem dX11_bad_23 : decode cX11_bad 23 = .ok (.return_, 1) := by decide +kernel
theorem dX11_isDigit_0 : decode cX11_isDigit 0 = .ok (.iload_n 0, 1) := by decide +kernel
theorem dX11_isDigit_1 : decode cX11_isDigit 1 = .ok (.bipush 48, 2) := by decide +kernel
theorem dX11_isDigit_3 : decode cX11_isDigit 3 = .ok (.if_icmp .lt 13, 3) := by decide +kernel
theorem dX11_isDigit_6 : decode cX11_isDigit 6 = .ok (.iload_n 0, 1) := by decide +kernel
theorem dX11_isDigit_7 : decode cX11_isDigit 7 = .ok (.bipush 57, 2) := by decide +kernel
theorem dX11_isDigit_9 : decode cX11_isDigit 9 = .ok (.if_icmp .gt 7, 3) := by decide +kernel
theorem dX11_isDigit_12 : decode cX11_isDigit 12 = .ok (.iconst 1, 1) := by decide +kernel
theorem dX11_isDigit_13 : decode cX11_isDigit 13 = .ok (.goto 4, 3) := by decide +kernel
theorem dX11_isDigit_16 : decode cX11_isDigit 16 = .ok (.iconst 0, 1) := by decide +kernel
theorem dX11_isDigit_17 : decode cX11_isDigit 17 = .ok (.ireturn, 1) := by decide +kernel
theorem dX11_put_0 : decode cX11_put 0 = .ok (.aload_n 0, 1) := by decide +kernel
theorem dX11_put_1 : decode cX11_put 1 = .ok (.getfield 13, 3) := by decide +kernel
theorem dX11_put_4 : decode cX11_put 4 = .ok (.sipush 520, 3) := by decide +kernel
theorem dX11_put_7 : decode cX11_put 7 = .ok (.aload_n 0, 1) := by decide +kernel
theorem dX11_put_8 : decode cX11_put 8 = .ok (.getfield 113, 3) := by decide +kernel
theorem dX11_put_11 : decode cX11_put 11 = .ok (.imul, 1) := by decide +kernel
theorem dX11_put_12 : decode cX11_put 12 = .ok (.aload_n 0, 1) := by decide +kernel
theorem dX11_put_13 : decode cX11_put 13 = .ok (.getfield 19, 3) := by decide +kernel
theorem dX11_put_16 : decode cX11_put 16 = .ok (.aload_n 0, 1) := by decide +kernel
theorem dX11_put_17 : decode cX11_put 17 = .ok (.getfield 113, 3) := by decide +kernel
theorem dX11_put_20 : decode cX11_put 20 = .ok (.iaload, 1) := by decide +kernel
theorem dX11_put_21 : decode cX11_put 21 = .ok (.iadd, 1) := by decide +kernel
theorem dX11_put_22 : decode cX11_put 22 = .ok (.iload_n 1, 1) := by decide +kernel
theorem dX11_put_23 : decode cX11_put 23 = .ok (.iastore, 1) := by decide +kernel
theorem dX11_put_24 : decode cX11_put 24 = .ok (.aload_n 0, 1) := by decide +kernel
theorem dX11_put_25 : decode cX11_put 25 = .ok (.getfield 16, 3) := by decide +kernel
theorem dX11_put_28 : decode cX11_put 28 = .ok (.sipush 520, 3) := by decide +kernel
theorem dX11_put_31 : decode cX11_put 31 = .ok (.aload_n 0, 1) := by decide +kernel
theorem dX11_put_32 : decode cX11_put 32 = .ok (.getfield 113, 3) := by decide +kernel
theorem dX11_put_35 : decode cX11_put 35 = .ok (.imul, 1) := by decide +kernel
theorem dX11_put_36 : decode cX11_put 36 = .ok (.aload_n 0, 1) := by decide +kernel
theorem dX11_put_37 : decode cX11_put 37 = .ok (.getfield 19, 3) := by decide +kernel
theorem dX11_put_40 : decode cX11_put 40 = .ok (.aload_n 0, 1) := by decide +kernel
theorem dX11_put_41 : decode cX11_put 41 = .ok (.getfield 113, 3) := by decide +kernel
theorem dX11_put_44 : decode cX11_put 44 = .ok (.iaload, 1) := by decide +kernel
theorem dX11_put_45 : decode cX11_put 45 = .ok (.iadd, 1) := by decide +kernel
theorem dX11_put_46 : decode cX11_put 46 = .ok (.iload_n 2, 1) := by decide +kernel
theorem dX11_put_47 : decode cX11_put 47 = .ok (.iastore, 1) := by decide +kernel
theorem dX11_put_48 : decode cX11_put 48 = .ok (.aload_n 0, 1) := by decide +kernel
theorem dX11_put_49 : decode cX11_put 49 = .ok (.getfield 19, 3) := by decide +kernel
theorem dX11_put_52 : decode cX11_put 52 = .ok (.aload_n 0, 1) := by decide +kernel
theorem dX11_put_53 : decode cX11_put 53 = .ok (.getfield 113, 3) := by decide +kernel
theorem dX11_put_56 : decode cX11_put 56 = .ok (.dup2, 1) := by decide +kernel
theorem dX11_put_57 : decode cX11_put 57 = .ok (.iaload, 1) := by decide +kernel
theorem dX11_put_58 : decode cX11_put 58 = .ok (.iconst 1, 1) := by decide +kernel
theorem dX11_put_59 : decode cX11_put 59 = .ok (.iadd, 1) := by decide +kernel
theorem dX11_put_60 : decode cX11_put 60 = .ok (.iastore, 1) := by decide +kernel
theorem dX11_put_61 : decode cX11_put 61 = .ok (.return_, 1) := by decide +kernel
theorem dX11_letterOf_0 : decode cX11_letterOf 0 = .ok (.iload_n 0, 1) := by decide +kernel
theorem dX11_letterOf_1 : decode cX11_letterOf 1 = .ok (.bipush 112, 2) := by decide +kernel
theorem dX11_letterOf_3 : decode cX11_letterOf 3 = .ok (.if_icmp .ne 7, 3) := by decide +kernel
theorem dX11_letterOf_6 : decode cX11_letterOf 6 = .ok (.iconst 0, 1) := by decide +kernel
theorem dX11_letterOf_7 : decode cX11_letterOf 7 = .ok (.goto 54, 3) := by decide +kernel
theorem dX11_letterOf_10 : decode cX11_letterOf 10 = .ok (.iload_n 0, 1) := by decide +kernel
theorem dX11_letterOf_11 : decode cX11_letterOf 11 = .ok (.bipush 107, 2) := by decide +kernel
theorem dX11_letterOf_13 : decode cX11_letterOf 13 = .ok (.if_icmp .ne 7, 3) := by decide +kernel
theorem dX11_letterOf_16 : decode cX11_letterOf 16 = .ok (.iconst 1, 1) := by decide +kernel
theorem dX11_letterOf_17 : decode cX11_letterOf 17 = .ok (.goto 44, 3) := by decide +kernel
theorem dX11_letterOf_20 : decode cX11_letterOf 20 = .ok (.iload_n 0, 1) := by decide +kernel
theorem dX11_letterOf_21 : decode cX11_letterOf 21 = .ok (.bipush 115, 2) := by decide +kernel
theorem dX11_letterOf_23 : decode cX11_letterOf 23 = .ok (.if_icmp .ne 7, 3) := by decide +kernel
theorem dX11_letterOf_26 : decode cX11_letterOf 26 = .ok (.iconst 2, 1) := by decide +kernel
theorem dX11_letterOf_27 : decode cX11_letterOf 27 = .ok (.goto 34, 3) := by decide +kernel
theorem dX11_letterOf_30 : decode cX11_letterOf 30 = .ok (.iload_n 0, 1) := by decide +kernel
theorem dX11_letterOf_31 : decode cX11_letterOf 31 = .ok (.bipush 99, 2) := by decide +kernel
theorem dX11_letterOf_33 : decode cX11_letterOf 33 = .ok (.if_icmp .ne 7, 3) := by decide +kernel
theorem dX11_letterOf_36 : decode cX11_letterOf 36 = .ok (.iconst 3, 1) := by decide +kernel
theorem dX11_letterOf_37 : decode cX11_letterOf 37 = .ok (.goto 24, 3) := by decide +kernel
theorem dX11_letterOf_40 : decode cX11_letterOf 40 = .ok (.iload_n 0, 1) := by decide +kernel
theorem dX11_letterOf_41 : decode cX11_letterOf 41 = .ok (.bipush 104, 2) := by decide +kernel
theorem dX11_letterOf_43 : decode cX11_letterOf 43 = .ok (.if_icmp .ne 7, 3) := by decide +kernel
theorem dX11_letterOf_46 : decode cX11_letterOf 46 = .ok (.iconst 4, 1) := by decide +kernel
theorem dX11_letterOf_47 : decode cX11_letterOf 47 = .ok (.goto 14, 3) := by decide +kernel
theorem dX11_letterOf_50 : decode cX11_letterOf 50 = .ok (.iload_n 0, 1) := by decide +kernel
theorem dX11_letterOf_51 : decode cX11_letterOf 51 = .ok (.bipush 100, 2) := by decide +kernel
theorem dX11_letterOf_53 : decode cX11_letterOf 53 = .ok (.if_icmp .ne 7, 3) := by decide +kernel
theorem dX11_letterOf_56 : decode cX11_letterOf 56 = .ok (.iconst 5, 1) := by decide +kernel
theorem dX11_letterOf_57 : decode cX11_letterOf 57 = .ok (.goto 4, 3) := by decide +kernel
theorem dX11_letterOf_60 : decode cX11_letterOf 60 = .ok (.iconst (-1), 1) := by decide +kernel
theorem dX11_letterOf_61 : decode cX11_letterOf 61 = .ok (.ireturn, 1) := by decide +kernel
theorem dX11_opens_0 : decode cX11_opens 0 = .ok (.aload_n 0, 1) := by decide +kernel
theorem dX11_opens_1 : decode cX11_opens 1 = .ok (.getfield 116, 3) := by decide +kernel
theorem dX11_opens_4 : decode cX11_opens 4 = .ok (.bipush 6, 2) := by decide +kernel
theorem dX11_opens_6 : decode cX11_opens 6 = .ok (.if_icmp .ne 7, 3) := by decide +kernel
theorem dX11_opens_9 : decode cX11_opens 9 = .ok (.aload_n 0, 1) := by decide +kernel
theorem dX11_opens_10 : decode cX11_opens 10 = .ok (.invokevirtual 119, 3) := by decide +kernel
theorem dX11_opens_13 : decode cX11_opens 13 = .ok (.aload_n 0, 1) := by decide +kernel
theorem dX11_opens_14 : decode cX11_opens 14 = .ok (.dup, 1) := by decide +kernel
theorem dX11_opens_15 : decode cX11_opens 15 = .ok (.getfield 116, 3) := by decide +kernel
theorem dX11_opens_18 : decode cX11_opens 18 = .ok (.iconst 1, 1) := by decide +kernel
theorem dX11_opens_19 : decode cX11_opens 19 = .ok (.iadd, 1) := by decide +kernel
theorem dX11_opens_20 : decode cX11_opens 20 = .ok (.putfield 116, 3) := by decide +kernel
theorem dX11_opens_23 : decode cX11_opens 23 = .ok (.aload_n 0, 1) := by decide +kernel
theorem dX11_opens_24 : decode cX11_opens 24 = .ok (.dup, 1) := by decide +kernel
theorem dX11_opens_25 : decode cX11_opens 25 = .ok (.getfield 103, 3) := by decide +kernel
theorem dX11_opens_28 : decode cX11_opens 28 = .ok (.iconst 1, 1) := by decide +kernel
theorem dX11_opens_29 : decode cX11_opens 29 = .ok (.iadd, 1) := by decide +kernel
theorem dX11_opens_30 : decode cX11_opens 30 = .ok (.putfield 103, 3) := by decide +kernel
theorem dX11_opens_33 : decode cX11_opens 33 = .ok (.return_, 1) := by decide +kernel
theorem dX11_closes_0 : decode cX11_closes 0 = .ok (.aload_n 0, 1) := by decide +kernel
theorem dX11_closes_1 : decode cX11_closes 1 = .ok (.getfield 110, 3) := by decide +kernel
theorem dX11_closes_4 : decode cX11_closes 4 = .ok (.iconst (-1), 1) := by decide +kernel
theorem dX11_closes_5 : decode cX11_closes 5 = .ok (.if_icmp .ne 15, 3) := by decide +kernel
theorem dX11_closes_8 : decode cX11_closes 8 = .ok (.aload_n 0, 1) := by decide +kernel
theorem dX11_closes_9 : decode cX11_closes 9 = .ok (.invokevirtual 122, 3) := by decide +kernel
theorem dX11_closes_12 : decode cX11_closes 12 = .ok (.iload_n 1, 1) := by decide +kernel
theorem dX11_closes_13 : decode cX11_closes 13 = .ok (.if_icmp .eq 7, 3) := by decide +kernel
theorem dX11_closes_16 : decode cX11_closes 16 = .ok (.aload_n 0, 1) := by decide +kernel
theorem dX11_closes_17 : decode cX11_closes 17 = .ok (.invokevirtual 119, 3) := by decide +kernel
theorem dX11_closes_20 : decode cX11_closes 20 = .ok (.aload_n 0, 1) := by decide +kernel
theorem dX11_closes_21 : decode cX11_closes 21 = .ok (.dup, 1) := by decide +kernel
theorem dX11_closes_22 : decode cX11_closes 22 = .ok (.getfield 103, 3) := by decide +kernel
theorem dX11_closes_25 : decode cX11_closes 25 = .ok (.iconst 1, 1) := by decide +kernel
theorem dX11_closes_26 : decode cX11_closes 26 = .ok (.iadd, 1) := by decide +kernel
theorem dX11_closes_27 : decode cX11_closes 27 = .ok (.putfield 103, 3) := by decide +kernel
theorem dX11_closes_30 : decode cX11_closes 30 = .ok (.aload_n 0, 1) := by decide +kernel
theorem dX11_closes_31 : decode cX11_closes 31 = .ok (.dup, 1) := by decide +kernel
theorem dX11_closes_32 : decode cX11_closes 32 = .ok (.getfield 116, 3) := by decide +kernel
theorem dX11_closes_35 : decode cX11_closes 35 = .ok (.iconst 1, 1) := by decide +kernel
theorem dX11_closes_36 : decode cX11_closes 36 = .ok (.isub, 1) := by decide +kernel
theorem dX11_closes_37 : decode cX11_closes 37 = .ok (.putfield 116, 3) := by decide +kernel
theorem dX11_closes_40 : decode cX11_closes 40 = .ok (.return_, 1) := by decide +kernel
theorem dX11_plainNumber_0 : decode cX11_plainNumber 0 = .ok (.iconst 0, 1) := by decide +kernel
theorem dX11_plainNumber_1 : decode cX11_plainNumber 1 = .ok (.istore_n 1, 1) := by decide +kernel
theorem dX11_plainNumber_2 : decode cX11_plainNumber 2 = .ok (.iconst 0, 1) := by decide +kernel
theorem dX11_plainNumber_3 : decode cX11_plainNumber 3 = .ok (.istore_n 2, 1) := by decide +kernel
theorem dX11_plainNumber_4 : decode cX11_plainNumber 4 = .ok (.iload_n 2, 1) := by decide +kernel
theorem dX11_plainNumber_5 : decode cX11_plainNumber 5 = .ok (.iconst 4, 1) := by decide +kernel
theorem dX11_plainNumber_6 : decode cX11_plainNumber 6 = .ok (.if_icmp .ge 42, 3) := by decide +kernel
theorem dX11_plainNumber_9 : decode cX11_plainNumber 9 = .ok (.aload_n 0, 1) := by decide +kernel
theorem dX11_plainNumber_10 : decode cX11_plainNumber 10 = .ok (.invokevirtual 106, 3) := by decide +kernel
theorem dX11_plainNumber_13 : decode cX11_plainNumber 13 = .ok (.invokestatic 125, 3) := by decide +kernel
theorem dX11_plainNumber_16 : decode cX11_plainNumber 16 = .ok (.ifCond .eq 32, 3) := by decide +kernel
theorem dX11_plainNumber_19 : decode cX11_plainNumber 19 = .ok (.bipush 10, 2) := by decide +kernel
theorem dX11_plainNumber_21 : decode cX11_plainNumber 21 = .ok (.iload_n 1, 1) := by decide +kernel
theorem dX11_plainNumber_22 : decode cX11_plainNumber 22 = .ok (.imul, 1) := by decide +kernel
theorem dX11_plainNumber_23 : decode cX11_plainNumber 23 = .ok (.aload_n 0, 1) := by decide +kernel
theorem dX11_plainNumber_24 : decode cX11_plainNumber 24 = .ok (.invokevirtual 106, 3) := by decide +kernel
theorem dX11_plainNumber_27 : decode cX11_plainNumber 27 = .ok (.iadd, 1) := by decide +kernel
theorem dX11_plainNumber_28 : decode cX11_plainNumber 28 = .ok (.bipush 48, 2) := by decide +kernel
theorem dX11_plainNumber_30 : decode cX11_plainNumber 30 = .ok (.isub, 1) := by decide +kernel
theorem dX11_plainNumber_31 : decode cX11_plainNumber 31 = .ok (.istore_n 1, 1) := by decide +kernel
theorem dX11_plainNumber_32 : decode cX11_plainNumber 32 = .ok (.aload_n 0, 1) := by decide +kernel
theorem dX11_plainNumber_33 : decode cX11_plainNumber 33 = .ok (.dup, 1) := by decide +kernel
theorem dX11_plainNumber_34 : decode cX11_plainNumber 34 = .ok (.getfield 103, 3) := by decide +kernel
theorem dX11_plainNumber_37 : decode cX11_plainNumber 37 = .ok (.iconst 1, 1) := by decide +kernel
theorem dX11_plainNumber_38 : decode cX11_plainNumber 38 = .ok (.iadd, 1) := by decide +kernel
theorem dX11_plainNumber_39 : decode cX11_plainNumber 39 = .ok (.putfield 103, 3) := by decide +kernel
theorem dX11_plainNumber_42 : decode cX11_plainNumber 42 = .ok (.iinc 2 1, 3) := by decide +kernel
theorem dX11_plainNumber_45 : decode cX11_plainNumber 45 = .ok (.goto (-41), 3) := by decide +kernel
theorem dX11_plainNumber_48 : decode cX11_plainNumber 48 = .ok (.aload_n 0, 1) := by decide +kernel
theorem dX11_plainNumber_49 : decode cX11_plainNumber 49 = .ok (.invokevirtual 106, 3) := by decide +kernel
theorem dX11_plainNumber_52 : decode cX11_plainNumber 52 = .ok (.invokestatic 125, 3) := by decide +kernel
theorem dX11_plainNumber_55 : decode cX11_plainNumber 55 = .ok (.ifCond .eq 7, 3) := by decide +kernel
theorem dX11_plainNumber_58 : decode cX11_plainNumber 58 = .ok (.aload_n 0, 1) := by decide +kernel
theorem dX11_plainNumber_59 : decode cX11_plainNumber 59 = .ok (.invokevirtual 119, 3) := by decide +kernel
theorem dX11_plainNumber_62 : decode cX11_plainNumber 62 = .ok (.iload_n 1, 1) := by decide +kernel
theorem dX11_plainNumber_63 : decode cX11_plainNumber 63 = .ok (.ireturn, 1) := by decide +kernel
theorem dX11_atom_0 : decode cX11_atom 0 = .ok (.aload_n 0, 1) := by decide +kernel
theorem dX11_atom_1 : decode cX11_atom 1 = .ok (.invokevirtual 122, 3) := by decide +kernel
theorem dX11_atom_4 : decode cX11_atom 4 = .ok (.istore_n 1, 1) := by decide +kernel
theorem dX11_atom_5 : decode cX11_atom 5 = .ok (.iload_n 1, 1) := by decide +kernel
theorem dX11_atom_6 : decode cX11_atom 6 = .ok (.invokestatic 125, 3) := by decide +kernel
theorem dX11_atom_9 : decode cX11_atom 9 = .ok (.ifCond .eq 15, 3) := by decide +kernel
theorem dX11_atom_12 : decode cX11_atom 12 = .ok (.aload_n 0, 1) := by decide +kernel
theorem dX11_atom_13 : decode cX11_atom 13 = .ok (.iconst 0, 1) := by decide +kernel
theorem dX11_atom_14 : decode cX11_atom 14 = .ok (.aload_n 0, 1) := by decide +kernel
theorem dX11_atom_15 : decode cX11_atom 15 = .ok (.invokevirtual 129, 3) := by decide +kernel
theorem dX11_atom_18 : decode cX11_atom 18 = .ok (.invokevirtual 132, 3) := by decide +kernel
theorem dX11_atom_21 : decode cX11_atom 21 = .ok (.goto 68, 3) := by decide +kernel
theorem dX11_atom_24 : decode cX11_atom 24 = .ok (.iload_n 1, 1) := by decide +kernel
theorem dX11_atom_25 : decode cX11_atom 25 = .ok (.invokestatic 136, 3) := by decide +kernel
theorem dX11_atom_28 : decode cX11_atom 28 = .ok (.iconst (-1), 1) := by decide +kernel
theorem dX11_atom_29 : decode cX11_atom 29 = .ok (.if_icmp .eq 25, 3) := by decide +kernel
theorem dX11_atom_32 : decode cX11_atom 32 = .ok (.aload_n 0, 1) := by decide +kernel
theorem dX11_atom_33 : decode cX11_atom 33 = .ok (.dup, 1) := by decide +kernel
theorem dX11_atom_34 : decode cX11_atom 34 = .ok (.getfield 103, 3) := by decide +kernel
theorem dX11_atom_37 : decode cX11_atom 37 = .ok (.iconst 1, 1) := by decide +kernel
theorem dX11_atom_38 : decode cX11_atom 38 = .ok (.iadd, 1) := by decide +kernel
theorem dX11_atom_39 : decode cX11_atom 39 = .ok (.putfield 103, 3) := by decide +kernel
theorem dX11_atom_42 : decode cX11_atom 42 = .ok (.aload_n 0, 1) := by decide +kernel
theorem dX11_atom_43 : decode cX11_atom 43 = .ok (.iconst 1, 1) := by decide +kernel
theorem dX11_atom_44 : decode cX11_atom 44 = .ok (.iload_n 1, 1) := by decide +kernel
theorem dX11_atom_45 : decode cX11_atom 45 = .ok (.invokestatic 136, 3) := by decide +kernel
theorem dX11_atom_48 : decode cX11_atom 48 = .ok (.invokevirtual 132, 3) := by decide +kernel
theorem dX11_atom_51 : decode cX11_atom 51 = .ok (.goto 38, 3) := by decide +kernel
theorem dX11_atom_54 : decode cX11_atom 54 = .ok (.iload_n 1, 1) := by decide +kernel
theorem dX11_atom_55 : decode cX11_atom 55 = .ok (.bipush 91, 2) := by decide +kernel
theorem dX11_atom_57 : decode cX11_atom 57 = .ok (.if_icmp .ne 28, 3) := by decide +kernel
theorem dX11_atom_60 : decode cX11_atom 60 = .ok (.aload_n 0, 1) := by decide +kernel
theorem dX11_atom_61 : decode cX11_atom 61 = .ok (.invokevirtual 140, 3) := by decide +kernel
theorem dX11_atom_64 : decode cX11_atom 64 = .ok (.aload_n 0, 1) := by decide +kernel
theorem dX11_atom_65 : decode cX11_atom 65 = .ok (.getfield 110, 3) := by decide +kernel
theorem dX11_atom_68 : decode cX11_atom 68 = .ok (.iconst (-1), 1) := by decide +kernel
theorem dX11_atom_69 : decode cX11_atom 69 = .ok (.if_icmp .ne 20, 3) := by decide +kernel
theorem dX11_atom_72 : decode cX11_atom 72 = .ok (.aload_n 0, 1) := by decide +kernel
theorem dX11_atom_73 : decode cX11_atom 73 = .ok (.invokevirtual 143, 3) := by decide +kernel
theorem dX11_atom_76 : decode cX11_atom 76 = .ok (.aload_n 0, 1) := by decide +kernel
theorem dX11_atom_77 : decode cX11_atom 77 = .ok (.bipush 93, 2) := by decide +kernel
theorem dX11_atom_79 : decode cX11_atom 79 = .ok (.invokevirtual 146, 3) := by decide +kernel
theorem dX11_atom_82 : decode cX11_atom 82 = .ok (.goto 7, 3) := by decide +kernel
theorem dX11_atom_85 : decode cX11_atom 85 = .ok (.aload_n 0, 1) := by decide +kernel
theorem dX11_atom_86 : decode cX11_atom 86 = .ok (.invokevirtual 119, 3) := by decide +kernel
theorem dX11_atom_89 : decode cX11_atom 89 = .ok (.return_, 1) := by decide +kernel
theorem dX11_term_0 : decode cX11_term 0 = .ok (.aload_n 0, 1) := by decide +kernel
theorem dX11_term_1 : decode cX11_term 1 = .ok (.invokevirtual 150, 3) := by decide +kernel
theorem dX11_term_4 : decode cX11_term 4 = .ok (.aload_n 0, 1) := by decide +kernel
theorem dX11_term_5 : decode cX11_term 5 = .ok (.getfield 110, 3) := by decide +kernel
theorem dX11_term_8 : decode cX11_term 8 = .ok (.iconst (-1), 1) := by decide +kernel
theorem dX11_term_9 : decode cX11_term 9 = .ok (.if_icmp .ne 10, 3) := by decide +kernel
theorem dX11_term_12 : decode cX11_term 12 = .ok (.aload_n 0, 1) := by decide +kernel
theorem dX11_term_13 : decode cX11_term 13 = .ok (.invokevirtual 122, 3) := by decide +kernel
theorem dX11_term_16 : decode cX11_term 16 = .ok (.goto 4, 3) := by decide +kernel
theorem dX11_term_19 : decode cX11_term 19 = .ok (.iconst (-1), 1) := by decide +kernel
theorem dX11_term_20 : decode cX11_term 20 = .ok (.istore_n 1, 1) := by decide +kernel
theorem dX11_term_21 : decode cX11_term 21 = .ok (.iload_n 1, 1) := by decide +kernel
theorem dX11_term_22 : decode cX11_term 22 = .ok (.bipush 42, 2) := by decide +kernel
theorem dX11_term_24 : decode cX11_term 24 = .ok (.if_icmp .eq 9, 3) := by decide +kernel
theorem dX11_term_27 : decode cX11_term 27 = .ok (.iload_n 1, 1) := by decide +kernel
theorem dX11_term_28 : decode cX11_term 28 = .ok (.bipush 47, 2) := by decide +kernel
theorem dX11_term_30 : decode cX11_term 30 = .ok (.if_icmp .ne 53, 3) := by decide +kernel
theorem dX11_term_33 : decode cX11_term 33 = .ok (.aload_n 0, 1) := by decide +kernel
theorem dX11_term_34 : decode cX11_term 34 = .ok (.dup, 1) := by decide +kernel
theorem dX11_term_35 : decode cX11_term 35 = .ok (.getfield 103, 3) := by decide +kernel
theorem dX11_term_38 : decode cX11_term 38 = .ok (.iconst 1, 1) := by decide +kernel
theorem dX11_term_39 : decode cX11_term 39 = .ok (.iadd, 1) := by decide +kernel
theorem dX11_term_40 : decode cX11_term 40 = .ok (.putfield 103, 3) := by decide +kernel
theorem dX11_term_43 : decode cX11_term 43 = .ok (.aload_n 0, 1) := by decide +kernel
theorem dX11_term_44 : decode cX11_term 44 = .ok (.invokevirtual 150, 3) := by decide +kernel
theorem dX11_term_47 : decode cX11_term 47 = .ok (.aload_n 0, 1) := by decide +kernel
theorem dX11_term_48 : decode cX11_term 48 = .ok (.iload_n 1, 1) := by decide +kernel
theorem dX11_term_49 : decode cX11_term 49 = .ok (.bipush 42, 2) := by decide +kernel
theorem dX11_term_51 : decode cX11_term 51 = .ok (.if_icmp .ne 7, 3) := by decide +kernel
theorem dX11_term_54 : decode cX11_term 54 = .ok (.iconst 4, 1) := by decide +kernel
theorem dX11_term_55 : decode cX11_term 55 = .ok (.goto 4, 3) := by decide +kernel
theorem dX11_term_58 : decode cX11_term 58 = .ok (.iconst 5, 1) := by decide +kernel
theorem dX11_term_59 : decode cX11_term 59 = .ok (.iconst 0, 1) := by decide +kernel
theorem dX11_term_60 : decode cX11_term 60 = .ok (.invokevirtual 132, 3) := by decide +kernel
theorem dX11_term_63 : decode cX11_term 63 = .ok (.aload_n 0, 1) := by decide +kernel
theorem dX11_term_64 : decode cX11_term 64 = .ok (.getfield 110, 3) := by decide +kernel
theorem dX11_term_67 : decode cX11_term 67 = .ok (.iconst (-1), 1) := by decide +kernel
theorem dX11_term_68 : decode cX11_term 68 = .ok (.if_icmp .ne 10, 3) := by decide +kernel
theorem dX11_term_71 : decode cX11_term 71 = .ok (.aload_n 0, 1) := by decide +kernel
theorem dX11_term_72 : decode cX11_term 72 = .ok (.invokevirtual 122, 3) := by decide +kernel
theorem dX11_term_75 : decode cX11_term 75 = .ok (.goto 4, 3) := by decide +kernel
theorem dX11_term_78 : decode cX11_term 78 = .ok (.iconst (-1), 1) := by decide +kernel
theorem dX11_term_79 : decode cX11_term 79 = .ok (.istore_n 1, 1) := by decide +kernel
theorem dX11_term_80 : decode cX11_term 80 = .ok (.goto (-59), 3) := by decide +kernel
theorem dX11_term_83 : decode cX11_term 83 = .ok (.return_, 1) := by decide +kernel
theorem dX11_sum_0 : decode cX11_sum 0 = .ok (.aload_n 0, 1) := by decide +kernel
theorem dX11_sum_1 : decode cX11_sum 1 = .ok (.invokevirtual 153, 3) := by decide +kernel
theorem dX11_sum_4 : decode cX11_sum 4 = .ok (.aload_n 0, 1) := by decide +kernel
theorem dX11_sum_5 : decode cX11_sum 5 = .ok (.getfield 110, 3) := by decide +kernel
theorem dX11_sum_8 : decode cX11_sum 8 = .ok (.iconst (-1), 1) := by decide +kernel
theorem dX11_sum_9 : decode cX11_sum 9 = .ok (.if_icmp .ne 10, 3) := by decide +kernel
theorem dX11_sum_12 : decode cX11_sum 12 = .ok (.aload_n 0, 1) := by decide +kernel
theorem dX11_sum_13 : decode cX11_sum 13 = .ok (.invokevirtual 122, 3) := by decide +kernel
theorem dX11_sum_16 : decode cX11_sum 16 = .ok (.goto 4, 3) := by decide +kernel
theorem dX11_sum_19 : decode cX11_sum 19 = .ok (.iconst (-1), 1) := by decide +kernel
theorem dX11_sum_20 : decode cX11_sum 20 = .ok (.istore_n 1, 1) := by decide +kernel
theorem dX11_sum_21 : decode cX11_sum 21 = .ok (.iload_n 1, 1) := by decide +kernel
theorem dX11_sum_22 : decode cX11_sum 22 = .ok (.bipush 43, 2) := by decide +kernel
theorem dX11_sum_24 : decode cX11_sum 24 = .ok (.if_icmp .eq 9, 3) := by decide +kernel
theorem dX11_sum_27 : decode cX11_sum 27 = .ok (.iload_n 1, 1) := by decide +kernel
theorem dX11_sum_28 : decode cX11_sum 28 = .ok (.bipush 45, 2) := by decide +kernel
theorem dX11_sum_30 : decode cX11_sum 30 = .ok (.if_icmp .ne 53, 3) := by decide +kernel
theorem dX11_sum_33 : decode cX11_sum 33 = .ok (.aload_n 0, 1) := by decide +kernel
theorem dX11_sum_34 : decode cX11_sum 34 = .ok (.dup, 1) := by decide +kernel
theorem dX11_sum_35 : decode cX11_sum 35 = .ok (.getfield 103, 3) := by decide +kernel
theorem dX11_sum_38 : decode cX11_sum 38 = .ok (.iconst 1, 1) := by decide +kernel
theorem dX11_sum_39 : decode cX11_sum 39 = .ok (.iadd, 1) := by decide +kernel
theorem dX11_sum_40 : decode cX11_sum 40 = .ok (.putfield 103, 3) := by decide +kernel
theorem dX11_sum_43 : decode cX11_sum 43 = .ok (.aload_n 0, 1) := by decide +kernel
theorem dX11_sum_44 : decode cX11_sum 44 = .ok (.invokevirtual 153, 3) := by decide +kernel
theorem dX11_sum_47 : decode cX11_sum 47 = .ok (.aload_n 0, 1) := by decide +kernel
theorem dX11_sum_48 : decode cX11_sum 48 = .ok (.iload_n 1, 1) := by decide +kernel
theorem dX11_sum_49 : decode cX11_sum 49 = .ok (.bipush 43, 2) := by decide +kernel
theorem dX11_sum_51 : decode cX11_sum 51 = .ok (.if_icmp .ne 7, 3) := by decide +kernel
theorem dX11_sum_54 : decode cX11_sum 54 = .ok (.iconst 2, 1) := by decide +kernel
theorem dX11_sum_55 : decode cX11_sum 55 = .ok (.goto 4, 3) := by decide +kernel
theorem dX11_sum_58 : decode cX11_sum 58 = .ok (.iconst 3, 1) := by decide +kernel
theorem dX11_sum_59 : decode cX11_sum 59 = .ok (.iconst 0, 1) := by decide +kernel
theorem dX11_sum_60 : decode cX11_sum 60 = .ok (.invokevirtual 132, 3) := by decide +kernel
theorem dX11_sum_63 : decode cX11_sum 63 = .ok (.aload_n 0, 1) := by decide +kernel
theorem dX11_sum_64 : decode cX11_sum 64 = .ok (.getfield 110, 3) := by decide +kernel
theorem dX11_sum_67 : decode cX11_sum 67 = .ok (.iconst (-1), 1) := by decide +kernel
theorem dX11_sum_68 : decode cX11_sum 68 = .ok (.if_icmp .ne 10, 3) := by decide +kernel
theorem dX11_sum_71 : decode cX11_sum 71 = .ok (.aload_n 0, 1) := by decide +kernel
theorem dX11_sum_72 : decode cX11_sum 72 = .ok (.invokevirtual 122, 3) := by decide +kernel
theorem dX11_sum_75 : decode cX11_sum 75 = .ok (.goto 4, 3) := by decide +kernel
theorem dX11_sum_78 : decode cX11_sum 78 = .ok (.iconst (-1), 1) := by decide +kernel
theorem dX11_sum_79 : decode cX11_sum 79 = .ok (.istore_n 1, 1) := by decide +kernel
theorem dX11_sum_80 : decode cX11_sum 80 = .ok (.goto (-59), 3) := by decide +kernel
theorem dX11_sum_83 : decode cX11_sum 83 = .ok (.return_, 1) := by decide +kernel
theorem dX11_isSign_0 : decode cX11_isSign 0 = .ok (.iload_n 0, 1) := by decide +kernel
theorem dX11_isSign_1 : decode cX11_isSign 1 = .ok (.bipush 61, 2) := by decide +kernel
theorem dX11_isSign_3 : decode cX11_isSign 3 = .ok (.if_icmp .eq 15, 3) := by decide +kernel
theorem dX11_isSign_6 : decode cX11_isSign 6 = .ok (.iload_n 0, 1) := by decide +kernel
theorem dX11_isSign_7 : decode cX11_isSign 7 = .ok (.bipush 60, 2) := by decide +kernel
theorem dX11_isSign_9 : decode cX11_isSign 9 = .ok (.if_icmp .eq 9, 3) := by decide +kernel
theorem dX11_isSign_12 : decode cX11_isSign 12 = .ok (.iload_n 0, 1) := by decide +kernel
theorem dX11_isSign_13 : decode cX11_isSign 13 = .ok (.bipush 62, 2) := by decide +kernel
theorem dX11_isSign_15 : decode cX11_isSign 15 = .ok (.if_icmp .ne 7, 3) := by decide +kernel
theorem dX11_isSign_18 : decode cX11_isSign 18 = .ok (.iconst 1, 1) := by decide +kernel
theorem dX11_isSign_19 : decode cX11_isSign 19 = .ok (.goto 4, 3) := by decide +kernel
theorem dX11_isSign_22 : decode cX11_isSign 22 = .ok (.iconst 0, 1) := by decide +kernel
theorem dX11_isSign_23 : decode cX11_isSign 23 = .ok (.ireturn, 1) := by decide +kernel
theorem dX11_compare_0 : decode cX11_compare 0 = .ok (.aload_n 0, 1) := by decide +kernel
theorem dX11_compare_1 : decode cX11_compare 1 = .ok (.getfield 110, 3) := by decide +kernel
theorem dX11_compare_4 : decode cX11_compare 4 = .ok (.iconst (-1), 1) := by decide +kernel
theorem dX11_compare_5 : decode cX11_compare 5 = .ok (.if_icmp .ne 10, 3) := by decide +kernel
theorem dX11_compare_8 : decode cX11_compare 8 = .ok (.aload_n 0, 1) := by decide +kernel
theorem dX11_compare_9 : decode cX11_compare 9 = .ok (.invokevirtual 122, 3) := by decide +kernel
theorem dX11_compare_12 : decode cX11_compare 12 = .ok (.goto 4, 3) := by decide +kernel
theorem dX11_compare_15 : decode cX11_compare 15 = .ok (.iconst (-1), 1) := by decide +kernel
theorem dX11_compare_16 : decode cX11_compare 16 = .ok (.istore_n 1, 1) := by decide +kernel
theorem dX11_compare_17 : decode cX11_compare 17 = .ok (.iload_n 1, 1) := by decide +kernel
theorem dX11_compare_18 : decode cX11_compare 18 = .ok (.invokestatic 156, 3) := by decide +kernel
theorem dX11_compare_21 : decode cX11_compare 21 = .ok (.ifCond .ne 8, 3) := by decide +kernel
theorem dX11_compare_24 : decode cX11_compare 24 = .ok (.aload_n 0, 1) := by decide +kernel
theorem dX11_compare_25 : decode cX11_compare 25 = .ok (.invokevirtual 119, 3) := by decide +kernel
theorem dX11_compare_28 : decode cX11_compare 28 = .ok (.return_, 1) := by decide +kernel
theorem dX11_compare_29 : decode cX11_compare 29 = .ok (.aload_n 0, 1) := by decide +kernel
theorem dX11_compare_30 : decode cX11_compare 30 = .ok (.dup, 1) := by decide +kernel
theorem dX11_compare_31 : decode cX11_compare 31 = .ok (.getfield 103, 3) := by decide +kernel
theorem dX11_compare_34 : decode cX11_compare 34 = .ok (.iconst 1, 1) := by decide +kernel
theorem dX11_compare_35 : decode cX11_compare 35 = .ok (.iadd, 1) := by decide +kernel
theorem dX11_compare_36 : decode cX11_compare 36 = .ok (.putfield 103, 3) := by decide +kernel
theorem dX11_compare_39 : decode cX11_compare 39 = .ok (.aload_n 0, 1) := by decide +kernel
theorem dX11_compare_40 : decode cX11_compare 40 = .ok (.invokevirtual 143, 3) := by decide +kernel
theorem dX11_compare_43 : decode cX11_compare 43 = .ok (.aload_n 0, 1) := by decide +kernel
theorem dX11_compare_44 : decode cX11_compare 44 = .ok (.iload_n 1, 1) := by decide +kernel
theorem dX11_compare_45 : decode cX11_compare 45 = .ok (.bipush 61, 2) := by decide +kernel
theorem dX11_compare_47 : decode cX11_compare 47 = .ok (.if_icmp .ne 8, 3) := by decide +kernel
theorem dX11_compare_50 : decode cX11_compare 50 = .ok (.bipush 6, 2) := by decide +kernel
theorem dX11_compare_52 : decode cX11_compare 52 = .ok (.goto 16, 3) := by decide +kernel
theorem dX11_compare_55 : decode cX11_compare 55 = .ok (.iload_n 1, 1) := by decide +kernel
theorem dX11_compare_56 : decode cX11_compare 56 = .ok (.bipush 60, 2) := by decide +kernel
theorem dX11_compare_58 : decode cX11_compare 58 = .ok (.if_icmp .ne 8, 3) := by decide +kernel
theorem dX11_compare_61 : decode cX11_compare 61 = .ok (.bipush 7, 2) := by decide +kernel
theorem dX11_compare_63 : decode cX11_compare 63 = .ok (.goto 5, 3) := by decide +kernel
theorem dX11_compare_66 : decode cX11_compare 66 = .ok (.bipush 8, 2) := by decide +kernel
theorem dX11_compare_68 : decode cX11_compare 68 = .ok (.iconst 0, 1) := by decide +kernel
theorem dX11_compare_69 : decode cX11_compare 69 = .ok (.invokevirtual 132, 3) := by decide +kernel
theorem dX11_compare_72 : decode cX11_compare 72 = .ok (.return_, 1) := by decide +kernel
theorem dX11_unit_0 : decode cX11_unit 0 = .ok (.aload_n 0, 1) := by decide +kernel
theorem dX11_unit_1 : decode cX11_unit 1 = .ok (.invokevirtual 122, 3) := by decide +kernel
theorem dX11_unit_4 : decode cX11_unit 4 = .ok (.istore_n 1, 1) := by decide +kernel
theorem dX11_unit_5 : decode cX11_unit 5 = .ok (.iload_n 1, 1) := by decide +kernel
theorem dX11_unit_6 : decode cX11_unit 6 = .ok (.bipush 33, 2) := by decide +kernel
theorem dX11_unit_8 : decode cX11_unit 8 = .ok (.if_icmp .ne 39, 3) := by decide +kernel
theorem dX11_unit_11 : decode cX11_unit 11 = .ok (.aload_n 0, 1) := by decide +kernel
theorem dX11_unit_12 : decode cX11_unit 12 = .ok (.invokevirtual 140, 3) := by decide +kernel
theorem dX11_unit_15 : decode cX11_unit 15 = .ok (.aload_n 0, 1) := by decide +kernel
theorem dX11_unit_16 : decode cX11_unit 16 = .ok (.getfield 110, 3) := by decide +kernel
theorem dX11_unit_19 : decode cX11_unit 19 = .ok (.iconst (-1), 1) := by decide +kernel
theorem dX11_unit_20 : decode cX11_unit 20 = .ok (.if_icmp .ne 74, 3) := by decide +kernel
theorem dX11_unit_23 : decode cX11_unit 23 = .ok (.aload_n 0, 1) := by decide +kernel
theorem dX11_unit_24 : decode cX11_unit 24 = .ok (.invokevirtual 159, 3) := by decide +kernel
theorem dX11_unit_27 : decode cX11_unit 27 = .ok (.aload_n 0, 1) := by decide +kernel
theorem dX11_unit_28 : decode cX11_unit 28 = .ok (.bipush 9, 2) := by decide +kernel
theorem dX11_unit_30 : decode cX11_unit 30 = .ok (.iconst 0, 1) := by decide +kernel
theorem dX11_unit_31 : decode cX11_unit 31 = .ok (.invokevirtual 132, 3) := by decide +kernel
theorem dX11_unit_34 : decode cX11_unit 34 = .ok (.aload_n 0, 1) := by decide +kernel
theorem dX11_unit_35 : decode cX11_unit 35 = .ok (.dup, 1) := by decide +kernel
theorem dX11_unit_36 : decode cX11_unit 36 = .ok (.getfield 116, 3) := by decide +kernel
theorem dX11_unit_39 : decode cX11_unit 39 = .ok (.iconst 1, 1) := by decide +kernel
theorem dX11_unit_40 : decode cX11_unit 40 = .ok (.isub, 1) := by decide +kernel
theorem dX11_unit_41 : decode cX11_unit 41 = .ok (.putfield 116, 3) := by decide +kernel
theorem dX11_unit_44 : decode cX11_unit 44 = .ok (.goto 50, 3) := by decide +kernel
theorem dX11_unit_47 : decode cX11_unit 47 = .ok (.iload_n 1, 1) := by decide +kernel
theorem dX11_unit_48 : decode cX11_unit 48 = .ok (.bipush 40, 2) := by decide +kernel
theorem dX11_unit_50 : decode cX11_unit 50 = .ok (.if_icmp .ne 28, 3) := by decide +kernel
theorem dX11_unit_53 : decode cX11_unit 53 = .ok (.aload_n 0, 1) := by decide +kernel
theorem dX11_unit_54 : decode cX11_unit 54 = .ok (.invokevirtual 140, 3) := by decide +kernel
theorem dX11_unit_57 : decode cX11_unit 57 = .ok (.aload_n 0, 1) := by decide +kernel
theorem dX11_unit_58 : decode cX11_unit 58 = .ok (.getfield 110, 3) := by decide +kernel
theorem dX11_unit_61 : decode cX11_unit 61 = .ok (.iconst (-1), 1) := by decide +kernel
theorem dX11_unit_62 : decode cX11_unit 62 = .ok (.if_icmp .ne 32, 3) := by decide +kernel
theorem dX11_unit_65 : decode cX11_unit 65 = .ok (.aload_n 0, 1) := by decide +kernel
theorem dX11_unit_66 : decode cX11_unit 66 = .ok (.invokevirtual 162, 3) := by decide +kernel
theorem dX11_unit_69 : decode cX11_unit 69 = .ok (.aload_n 0, 1) := by decide +kernel
theorem dX11_unit_70 : decode cX11_unit 70 = .ok (.bipush 41, 2) := by decide +kernel
theorem dX11_unit_72 : decode cX11_unit 72 = .ok (.invokevirtual 146, 3) := by decide +kernel
theorem dX11_unit_75 : decode cX11_unit 75 = .ok (.goto 19, 3) := by decide +kernel
theorem dX11_unit_78 : decode cX11_unit 78 = .ok (.aload_n 0, 1) := by decide +kernel
theorem dX11_unit_79 : decode cX11_unit 79 = .ok (.invokevirtual 143, 3) := by decide +kernel
theorem dX11_unit_82 : decode cX11_unit 82 = .ok (.aload_n 0, 1) := by decide +kernel
theorem dX11_unit_83 : decode cX11_unit 83 = .ok (.getfield 110, 3) := by decide +kernel
theorem dX11_unit_86 : decode cX11_unit 86 = .ok (.iconst (-1), 1) := by decide +kernel
theorem dX11_unit_87 : decode cX11_unit 87 = .ok (.if_icmp .ne 7, 3) := by decide +kernel
theorem dX11_unit_90 : decode cX11_unit 90 = .ok (.aload_n 0, 1) := by decide +kernel
theorem dX11_unit_91 : decode cX11_unit 91 = .ok (.invokevirtual 165, 3) := by decide +kernel
theorem dX11_unit_94 : decode cX11_unit 94 = .ok (.return_, 1) := by decide +kernel
theorem dX11_goOnAnd_0 : decode cX11_goOnAnd 0 = .ok (.aload_n 0, 1) := by decide +kernel
theorem dX11_goOnAnd_1 : decode cX11_goOnAnd 1 = .ok (.getfield 110, 3) := by decide +kernel
theorem dX11_goOnAnd_4 : decode cX11_goOnAnd 4 = .ok (.iconst (-1), 1) := by decide +kernel
theorem dX11_goOnAnd_5 : decode cX11_goOnAnd 5 = .ok (.if_icmp .ne 36, 3) := by decide +kernel
theorem dX11_goOnAnd_8 : decode cX11_goOnAnd 8 = .ok (.aload_n 0, 1) := by decide +kernel
theorem dX11_goOnAnd_9 : decode cX11_goOnAnd 9 = .ok (.invokevirtual 122, 3) := by decide +kernel
theorem dX11_goOnAnd_12 : decode cX11_goOnAnd 12 = .ok (.bipush 38, 2) := by decide +kernel
theorem dX11_goOnAnd_14 : decode cX11_goOnAnd 14 = .ok (.if_icmp .ne 27, 3) := by decide +kernel
theorem dX11_goOnAnd_17 : decode cX11_goOnAnd 17 = .ok (.aload_n 0, 1) := by decide +kernel
theorem dX11_goOnAnd_18 : decode cX11_goOnAnd 18 = .ok (.dup, 1) := by decide +kernel
theorem dX11_goOnAnd_19 : decode cX11_goOnAnd 19 = .ok (.getfield 103, 3) := by decide +kernel
theorem dX11_goOnAnd_22 : decode cX11_goOnAnd 22 = .ok (.iconst 1, 1) := by decide +kernel
theorem dX11_goOnAnd_23 : decode cX11_goOnAnd 23 = .ok (.iadd, 1) := by decide +kernel
theorem dX11_goOnAnd_24 : decode cX11_goOnAnd 24 = .ok (.putfield 103, 3) := by decide +kernel
theorem dX11_goOnAnd_27 : decode cX11_goOnAnd 27 = .ok (.aload_n 0, 1) := by decide +kernel
theorem dX11_goOnAnd_28 : decode cX11_goOnAnd 28 = .ok (.invokevirtual 159, 3) := by decide +kernel
theorem dX11_goOnAnd_31 : decode cX11_goOnAnd 31 = .ok (.aload_n 0, 1) := by decide +kernel
theorem dX11_goOnAnd_32 : decode cX11_goOnAnd 32 = .ok (.bipush 10, 2) := by decide +kernel
theorem dX11_goOnAnd_34 : decode cX11_goOnAnd 34 = .ok (.iconst 0, 1) := by decide +kernel
theorem dX11_goOnAnd_35 : decode cX11_goOnAnd 35 = .ok (.invokevirtual 132, 3) := by decide +kernel
theorem dX11_goOnAnd_38 : decode cX11_goOnAnd 38 = .ok (.goto (-38), 3) := by decide +kernel
theorem dX11_goOnAnd_41 : decode cX11_goOnAnd 41 = .ok (.return_, 1) := by decide +kernel
theorem dX11_goOnOr_0 : decode cX11_goOnOr 0 = .ok (.aload_n 0, 1) := by decide +kernel
theorem dX11_goOnOr_1 : decode cX11_goOnOr 1 = .ok (.getfield 110, 3) := by decide +kernel
theorem dX11_goOnOr_4 : decode cX11_goOnOr 4 = .ok (.iconst (-1), 1) := by decide +kernel
theorem dX11_goOnOr_5 : decode cX11_goOnOr 5 = .ok (.if_icmp .ne 40, 3) := by decide +kernel
theorem dX11_goOnOr_8 : decode cX11_goOnOr 8 = .ok (.aload_n 0, 1) := by decide +kernel
theorem dX11_goOnOr_9 : decode cX11_goOnOr 9 = .ok (.invokevirtual 122, 3) := by decide +kernel
theorem dX11_goOnOr_12 : decode cX11_goOnOr 12 = .ok (.bipush 124, 2) := by decide +kernel
theorem dX11_goOnOr_14 : decode cX11_goOnOr 14 = .ok (.if_icmp .ne 31, 3) := by decide +kernel
theorem dX11_goOnOr_17 : decode cX11_goOnOr 17 = .ok (.aload_n 0, 1) := by decide +kernel
theorem dX11_goOnOr_18 : decode cX11_goOnOr 18 = .ok (.dup, 1) := by decide +kernel
theorem dX11_goOnOr_19 : decode cX11_goOnOr 19 = .ok (.getfield 103, 3) := by decide +kernel
theorem dX11_goOnOr_22 : decode cX11_goOnOr 22 = .ok (.iconst 1, 1) := by decide +kernel
theorem dX11_goOnOr_23 : decode cX11_goOnOr 23 = .ok (.iadd, 1) := by decide +kernel
theorem dX11_goOnOr_24 : decode cX11_goOnOr 24 = .ok (.putfield 103, 3) := by decide +kernel
theorem dX11_goOnOr_27 : decode cX11_goOnOr 27 = .ok (.aload_n 0, 1) := by decide +kernel
theorem dX11_goOnOr_28 : decode cX11_goOnOr 28 = .ok (.invokevirtual 159, 3) := by decide +kernel
theorem dX11_goOnOr_31 : decode cX11_goOnOr 31 = .ok (.aload_n 0, 1) := by decide +kernel
theorem dX11_goOnOr_32 : decode cX11_goOnOr 32 = .ok (.invokevirtual 168, 3) := by decide +kernel
theorem dX11_goOnOr_35 : decode cX11_goOnOr 35 = .ok (.aload_n 0, 1) := by decide +kernel
theorem dX11_goOnOr_36 : decode cX11_goOnOr 36 = .ok (.bipush 11, 2) := by decide +kernel
theorem dX11_goOnOr_38 : decode cX11_goOnOr 38 = .ok (.iconst 0, 1) := by decide +kernel
theorem dX11_goOnOr_39 : decode cX11_goOnOr 39 = .ok (.invokevirtual 132, 3) := by decide +kernel
theorem dX11_goOnOr_42 : decode cX11_goOnOr 42 = .ok (.goto (-42), 3) := by decide +kernel
theorem dX11_goOnOr_45 : decode cX11_goOnOr 45 = .ok (.return_, 1) := by decide +kernel
theorem dX11_condition_0 : decode cX11_condition 0 = .ok (.aload_n 0, 1) := by decide +kernel
theorem dX11_condition_1 : decode cX11_condition 1 = .ok (.invokevirtual 159, 3) := by decide +kernel
theorem dX11_condition_4 : decode cX11_condition 4 = .ok (.aload_n 0, 1) := by decide +kernel
theorem dX11_condition_5 : decode cX11_condition 5 = .ok (.invokevirtual 168, 3) := by decide +kernel
theorem dX11_condition_8 : decode cX11_condition 8 = .ok (.aload_n 0, 1) := by decide +kernel
theorem dX11_condition_9 : decode cX11_condition 9 = .ok (.invokevirtual 171, 3) := by decide +kernel
theorem dX11_condition_12 : decode cX11_condition 12 = .ok (.return_, 1) := by decide +kernel
theorem dX11_clause_0 : decode cX11_clause 0 = .ok (.sipush 140, 3) := by decide +kernel
theorem dX11_clause_3 : decode cX11_clause 3 = .ok (.aload_n 0, 1) := by decide +kernel
theorem dX11_clause_4 : decode cX11_clause 4 = .ok (.getfield 113, 3) := by decide +kernel
theorem dX11_clause_7 : decode cX11_clause 7 = .ok (.imul, 1) := by decide +kernel
theorem dX11_clause_8 : decode cX11_clause 8 = .ok (.aload_n 0, 1) := by decide +kernel
theorem dX11_clause_9 : decode cX11_clause 9 = .ok (.getfield 22, 3) := by decide +kernel
theorem dX11_clause_12 : decode cX11_clause 12 = .ok (.aload_n 0, 1) := by decide +kernel
theorem dX11_clause_13 : decode cX11_clause 13 = .ok (.getfield 113, 3) := by decide +kernel
theorem dX11_clause_16 : decode cX11_clause 16 = .ok (.iaload, 1) := by decide +kernel
theorem dX11_clause_17 : decode cX11_clause 17 = .ok (.iadd, 1) := by decide +kernel
theorem dX11_clause_18 : decode cX11_clause 18 = .ok (.istore_n 1, 1) := by decide +kernel
theorem dX11_clause_19 : decode cX11_clause 19 = .ok (.aload_n 0, 1) := by decide +kernel
theorem dX11_clause_20 : decode cX11_clause 20 = .ok (.getfield 110, 3) := by decide +kernel
theorem dX11_clause_23 : decode cX11_clause 23 = .ok (.iconst (-1), 1) := by decide +kernel
theorem dX11_clause_24 : decode cX11_clause 24 = .ok (.if_icmp .ne 16, 3) := by decide +kernel
theorem dX11_clause_27 : decode cX11_clause 27 = .ok (.aload_n 0, 1) := by decide +kernel
theorem dX11_clause_28 : decode cX11_clause 28 = .ok (.invokevirtual 122, 3) := by decide +kernel
theorem dX11_clause_31 : decode cX11_clause 31 = .ok (.bipush 121, 2) := by decide +kernel
theorem dX11_clause_33 : decode cX11_clause 33 = .ok (.if_icmp .eq 7, 3) := by decide +kernel
theorem dX11_clause_36 : decode cX11_clause 36 = .ok (.aload_n 0, 1) := by decide +kernel
theorem dX11_clause_37 : decode cX11_clause 37 = .ok (.invokevirtual 119, 3) := by decide +kernel
theorem dX11_clause_40 : decode cX11_clause 40 = .ok (.aload_n 0, 1) := by decide +kernel
theorem dX11_clause_41 : decode cX11_clause 41 = .ok (.dup, 1) := by decide +kernel
theorem dX11_clause_42 : decode cX11_clause 42 = .ok (.getfield 103, 3) := by decide +kernel
theorem dX11_clause_45 : decode cX11_clause 45 = .ok (.iconst 1, 1) := by decide +kernel
theorem dX11_clause_46 : decode cX11_clause 46 = .ok (.iadd, 1) := by decide +kernel
theorem dX11_clause_47 : decode cX11_clause 47 = .ok (.putfield 103, 3) := by decide +kernel
theorem dX11_clause_50 : decode cX11_clause 50 = .ok (.aload_n 0, 1) := by decide +kernel
theorem dX11_clause_51 : decode cX11_clause 51 = .ok (.getfield 110, 3) := by decide +kernel
theorem dX11_clause_54 : decode cX11_clause 54 = .ok (.iconst (-1), 1) := by decide +kernel
theorem dX11_clause_55 : decode cX11_clause 55 = .ok (.if_icmp .ne 16, 3) := by decide +kernel
theorem dX11_clause_58 : decode cX11_clause 58 = .ok (.aload_n 0, 1) := by decide +kernel
theorem dX11_clause_59 : decode cX11_clause 59 = .ok (.invokevirtual 122, 3) := by decide +kernel
theorem dX11_clause_62 : decode cX11_clause 62 = .ok (.bipush 58, 2) := by decide +kernel
theorem dX11_clause_64 : decode cX11_clause 64 = .ok (.if_icmp .eq 7, 3) := by decide +kernel
theorem dX11_clause_67 : decode cX11_clause 67 = .ok (.aload_n 0, 1) := by decide +kernel
theorem dX11_clause_68 : decode cX11_clause 68 = .ok (.invokevirtual 119, 3) := by decide +kernel
theorem dX11_clause_71 : decode cX11_clause 71 = .ok (.aload_n 0, 1) := by decide +kernel
theorem dX11_clause_72 : decode cX11_clause 72 = .ok (.dup, 1) := by decide +kernel
theorem dX11_clause_73 : decode cX11_clause 73 = .ok (.getfield 103, 3) := by decide +kernel
theorem dX11_clause_76 : decode cX11_clause 76 = .ok (.iconst 1, 1) := by decide +kernel
theorem dX11_clause_77 : decode cX11_clause 77 = .ok (.iadd, 1) := by decide +kernel
theorem dX11_clause_78 : decode cX11_clause 78 = .ok (.putfield 103, 3) := by decide +kernel
theorem dX11_clause_81 : decode cX11_clause 81 = .ok (.aload_n 0, 1) := by decide +kernel
theorem dX11_clause_82 : decode cX11_clause 82 = .ok (.getfield 110, 3) := by decide +kernel
theorem dX11_clause_85 : decode cX11_clause 85 = .ok (.iconst (-1), 1) := by decide +kernel
theorem dX11_clause_86 : decode cX11_clause 86 = .ok (.if_icmp .eq 4, 3) := by decide +kernel
theorem dX11_clause_89 : decode cX11_clause 89 = .ok (.return_, 1) := by decide +kernel
theorem dX11_clause_90 : decode cX11_clause 90 = .ok (.aload_n 0, 1) := by decide +kernel
theorem dX11_clause_91 : decode cX11_clause 91 = .ok (.getfield 25, 3) := by decide +kernel
theorem dX11_clause_94 : decode cX11_clause 94 = .ok (.iload_n 1, 1) := by decide +kernel
theorem dX11_clause_95 : decode cX11_clause 95 = .ok (.aload_n 0, 1) := by decide +kernel
theorem dX11_clause_96 : decode cX11_clause 96 = .ok (.getfield 19, 3) := by decide +kernel
theorem dX11_clause_99 : decode cX11_clause 99 = .ok (.aload_n 0, 1) := by decide +kernel
theorem dX11_clause_100 : decode cX11_clause 100 = .ok (.getfield 113, 3) := by decide +kernel
theorem dX11_clause_103 : decode cX11_clause 103 = .ok (.iaload, 1) := by decide +kernel
theorem dX11_clause_104 : decode cX11_clause 104 = .ok (.iastore, 1) := by decide +kernel
theorem dX11_clause_105 : decode cX11_clause 105 = .ok (.aload_n 0, 1) := by decide +kernel
theorem dX11_clause_106 : decode cX11_clause 106 = .ok (.invokevirtual 122, 3) := by decide +kernel
theorem dX11_clause_109 : decode cX11_clause 109 = .ok (.bipush 33, 2) := by decide +kernel
theorem dX11_clause_111 : decode cX11_clause 111 = .ok (.if_icmp .eq 12, 3) := by decide +kernel
theorem dX11_clause_114 : decode cX11_clause 114 = .ok (.aload_n 0, 1) := by decide +kernel
theorem dX11_clause_115 : decode cX11_clause 115 = .ok (.invokevirtual 122, 3) := by decide +kernel
theorem dX11_clause_118 : decode cX11_clause 118 = .ok (.bipush 40, 2) := by decide +kernel
theorem dX11_clause_120 : decode cX11_clause 120 = .ok (.if_icmp .ne 7, 3) := by decide +kernel
theorem dX11_clause_123 : decode cX11_clause 123 = .ok (.iconst 1, 1) := by decide +kernel
theorem dX11_clause_124 : decode cX11_clause 124 = .ok (.goto 4, 3) := by decide +kernel
theorem dX11_clause_127 : decode cX11_clause 127 = .ok (.iconst 0, 1) := by decide +kernel
theorem dX11_clause_128 : decode cX11_clause 128 = .ok (.istore_n 2, 1) := by decide +kernel
theorem dX11_clause_129 : decode cX11_clause 129 = .ok (.iload_n 2, 1) := by decide +kernel
theorem dX11_clause_130 : decode cX11_clause 130 = .ok (.ifCond .eq 10, 3) := by decide +kernel
theorem dX11_clause_133 : decode cX11_clause 133 = .ok (.aload_n 0, 1) := by decide +kernel
theorem dX11_clause_134 : decode cX11_clause 134 = .ok (.invokevirtual 162, 3) := by decide +kernel
theorem dX11_clause_137 : decode cX11_clause 137 = .ok (.goto 47, 3) := by decide +kernel
theorem dX11_clause_140 : decode cX11_clause 140 = .ok (.aload_n 0, 1) := by decide +kernel
theorem dX11_clause_141 : decode cX11_clause 141 = .ok (.invokevirtual 143, 3) := by decide +kernel
theorem dX11_clause_144 : decode cX11_clause 144 = .ok (.aload_n 0, 1) := by decide +kernel
theorem dX11_clause_145 : decode cX11_clause 145 = .ok (.getfield 110, 3) := by decide +kernel
theorem dX11_clause_148 : decode cX11_clause 148 = .ok (.iconst (-1), 1) := by decide +kernel
theorem dX11_clause_149 : decode cX11_clause 149 = .ok (.if_icmp .ne 17, 3) := by decide +kernel
theorem dX11_clause_152 : decode cX11_clause 152 = .ok (.aload_n 0, 1) := by decide +kernel
theorem dX11_clause_153 : decode cX11_clause 153 = .ok (.invokevirtual 122, 3) := by decide +kernel
theorem dX11_clause_156 : decode cX11_clause 156 = .ok (.invokestatic 156, 3) := by decide +kernel
theorem dX11_clause_159 : decode cX11_clause 159 = .ok (.ifCond .eq 7, 3) := by decide +kernel
theorem dX11_clause_162 : decode cX11_clause 162 = .ok (.iconst 1, 1) := by decide +kernel
theorem dX11_clause_163 : decode cX11_clause 163 = .ok (.goto 4, 3) := by decide +kernel
theorem dX11_clause_166 : decode cX11_clause 166 = .ok (.iconst 0, 1) := by decide +kernel
theorem dX11_clause_167 : decode cX11_clause 167 = .ok (.istore_n 2, 1) := by decide +kernel
theorem dX11_clause_168 : decode cX11_clause 168 = .ok (.iload_n 2, 1) := by decide +kernel
theorem dX11_clause_169 : decode cX11_clause 169 = .ok (.ifCond .eq 15, 3) := by decide +kernel
theorem dX11_clause_172 : decode cX11_clause 172 = .ok (.aload_n 0, 1) := by decide +kernel
theorem dX11_clause_173 : decode cX11_clause 173 = .ok (.invokevirtual 165, 3) := by decide +kernel
theorem dX11_clause_176 : decode cX11_clause 176 = .ok (.aload_n 0, 1) := by decide +kernel
theorem dX11_clause_177 : decode cX11_clause 177 = .ok (.invokevirtual 168, 3) := by decide +kernel
theorem dX11_clause_180 : decode cX11_clause 180 = .ok (.aload_n 0, 1) := by decide +kernel
theorem dX11_clause_181 : decode cX11_clause 181 = .ok (.invokevirtual 171, 3) := by decide +kernel
theorem dX11_clause_184 : decode cX11_clause 184 = .ok (.aload_n 0, 1) := by decide +kernel
theorem dX11_clause_185 : decode cX11_clause 185 = .ok (.getfield 28, 3) := by decide +kernel
theorem dX11_clause_188 : decode cX11_clause 188 = .ok (.iload_n 1, 1) := by decide +kernel
theorem dX11_clause_189 : decode cX11_clause 189 = .ok (.aload_n 0, 1) := by decide +kernel
theorem dX11_clause_190 : decode cX11_clause 190 = .ok (.getfield 25, 3) := by decide +kernel
theorem dX11_clause_193 : decode cX11_clause 193 = .ok (.iload_n 1, 1) := by decide +kernel
theorem dX11_clause_194 : decode cX11_clause 194 = .ok (.iaload, 1) := by decide +kernel
theorem dX11_clause_195 : decode cX11_clause 195 = .ok (.iastore, 1) := by decide +kernel
theorem dX11_clause_196 : decode cX11_clause 196 = .ok (.iload_n 2, 1) := by decide +kernel
theorem dX11_clause_197 : decode cX11_clause 197 = .ok (.ifCond .eq 54, 3) := by decide +kernel
theorem dX11_clause_200 : decode cX11_clause 200 = .ok (.aload_n 0, 1) := by decide +kernel
theorem dX11_clause_201 : decode cX11_clause 201 = .ok (.getfield 110, 3) := by decide +kernel
theorem dX11_clause_204 : decode cX11_clause 204 = .ok (.iconst (-1), 1) := by decide +kernel
theorem dX11_clause_205 : decode cX11_clause 205 = .ok (.if_icmp .ne 46, 3) := by decide +kernel
theorem dX11_clause_208 : decode cX11_clause 208 = .ok (.aload_n 0, 1) := by decide +kernel
theorem dX11_clause_209 : decode cX11_clause 209 = .ok (.invokevirtual 122, 3) := by decide +kernel
theorem dX11_clause_212 : decode cX11_clause 212 = .ok (.bipush 63, 2) := by decide +kernel
theorem dX11_clause_214 : decode cX11_clause 214 = .ok (.if_icmp .eq 8, 3) := by decide +kernel
theorem dX11_clause_217 : decode cX11_clause 217 = .ok (.aload_n 0, 1) := by decide +kernel
theorem dX11_clause_218 : decode cX11_clause 218 = .ok (.invokevirtual 119, 3) := by decide +kernel
theorem dX11_clause_221 : decode cX11_clause 221 = .ok (.return_, 1) := by decide +kernel
theorem dX11_clause_222 : decode cX11_clause 222 = .ok (.aload_n 0, 1) := by decide +kernel
theorem dX11_clause_223 : decode cX11_clause 223 = .ok (.dup, 1) := by decide +kernel
theorem dX11_clause_224 : decode cX11_clause 224 = .ok (.getfield 103, 3) := by decide +kernel
theorem dX11_clause_227 : decode cX11_clause 227 = .ok (.iconst 1, 1) := by decide +kernel
theorem dX11_clause_228 : decode cX11_clause 228 = .ok (.iadd, 1) := by decide +kernel
theorem dX11_clause_229 : decode cX11_clause 229 = .ok (.putfield 103, 3) := by decide +kernel
theorem dX11_clause_232 : decode cX11_clause 232 = .ok (.aload_n 0, 1) := by decide +kernel
theorem dX11_clause_233 : decode cX11_clause 233 = .ok (.getfield 28, 3) := by decide +kernel
theorem dX11_clause_236 : decode cX11_clause 236 = .ok (.iload_n 1, 1) := by decide +kernel
theorem dX11_clause_237 : decode cX11_clause 237 = .ok (.aload_n 0, 1) := by decide +kernel
theorem dX11_clause_238 : decode cX11_clause 238 = .ok (.getfield 19, 3) := by decide +kernel
theorem dX11_clause_241 : decode cX11_clause 241 = .ok (.aload_n 0, 1) := by decide +kernel
theorem dX11_clause_242 : decode cX11_clause 242 = .ok (.getfield 113, 3) := by decide +kernel
theorem dX11_clause_245 : decode cX11_clause 245 = .ok (.iaload, 1) := by decide +kernel
theorem dX11_clause_246 : decode cX11_clause 246 = .ok (.iastore, 1) := by decide +kernel
theorem dX11_clause_247 : decode cX11_clause 247 = .ok (.aload_n 0, 1) := by decide +kernel
theorem dX11_clause_248 : decode cX11_clause 248 = .ok (.invokevirtual 143, 3) := by decide +kernel
theorem dX11_clause_251 : decode cX11_clause 251 = .ok (.aload_n 0, 1) := by decide +kernel
theorem dX11_clause_252 : decode cX11_clause 252 = .ok (.getfield 31, 3) := by decide +kernel
theorem dX11_clause_255 : decode cX11_clause 255 = .ok (.iload_n 1, 1) := by decide +kernel
theorem dX11_clause_256 : decode cX11_clause 256 = .ok (.aload_n 0, 1) := by decide +kernel
theorem dX11_clause_257 : decode cX11_clause 257 = .ok (.getfield 19, 3) := by decide +kernel
theorem dX11_clause_260 : decode cX11_clause 260 = .ok (.aload_n 0, 1) := by decide +kernel
theorem dX11_clause_261 : decode cX11_clause 261 = .ok (.getfield 113, 3) := by decide +kernel
theorem dX11_clause_264 : decode cX11_clause 264 = .ok (.iaload, 1) := by decide +kernel
theorem dX11_clause_265 : decode cX11_clause 265 = .ok (.iastore, 1) := by decide +kernel
theorem dX11_clause_266 : decode cX11_clause 266 = .ok (.aload_n 0, 1) := by decide +kernel
theorem dX11_clause_267 : decode cX11_clause 267 = .ok (.getfield 22, 3) := by decide +kernel
theorem dX11_clause_270 : decode cX11_clause 270 = .ok (.aload_n 0, 1) := by decide +kernel
theorem dX11_clause_271 : decode cX11_clause 271 = .ok (.getfield 113, 3) := by decide +kernel
theorem dX11_clause_274 : decode cX11_clause 274 = .ok (.dup2, 1) := by decide +kernel
theorem dX11_clause_275 : decode cX11_clause 275 = .ok (.iaload, 1) := by decide +kernel
theorem dX11_clause_276 : decode cX11_clause 276 = .ok (.iconst 1, 1) := by decide +kernel
theorem dX11_clause_277 : decode cX11_clause 277 = .ok (.iadd, 1) := by decide +kernel
theorem dX11_clause_278 : decode cX11_clause 278 = .ok (.iastore, 1) := by decide +kernel
theorem dX11_clause_279 : decode cX11_clause 279 = .ok (.return_, 1) := by decide +kernel
theorem dX11_open_0 : decode cX11_open 0 = .ok (.aload_n 0, 1) := by decide +kernel
theorem dX11_open_1 : decode cX11_open 1 = .ok (.iload_n 1, 1) := by decide +kernel
theorem dX11_open_2 : decode cX11_open 2 = .ok (.putfield 113, 3) := by decide +kernel
theorem dX11_open_5 : decode cX11_open 5 = .ok (.aload_n 0, 1) := by decide +kernel
theorem dX11_open_6 : decode cX11_open 6 = .ok (.iconst 0, 1) := by decide +kernel
theorem dX11_open_7 : decode cX11_open 7 = .ok (.putfield 103, 3) := by decide +kernel
theorem dX11_open_10 : decode cX11_open 10 = .ok (.aload_n 0, 1) := by decide +kernel
theorem dX11_open_11 : decode cX11_open 11 = .ok (.iconst (-1), 1) := by decide +kernel
theorem dX11_open_12 : decode cX11_open 12 = .ok (.putfield 110, 3) := by decide +kernel
theorem dX11_open_15 : decode cX11_open 15 = .ok (.aload_n 0, 1) := by decide +kernel
theorem dX11_open_16 : decode cX11_open 16 = .ok (.iconst 0, 1) := by decide +kernel
theorem dX11_open_17 : decode cX11_open 17 = .ok (.putfield 116, 3) := by decide +kernel
theorem dX11_open_20 : decode cX11_open 20 = .ok (.aload_n 0, 1) := by decide +kernel
theorem dX11_open_21 : decode cX11_open 21 = .ok (.getfield 19, 3) := by decide +kernel
theorem dX11_open_24 : decode cX11_open 24 = .ok (.iload_n 1, 1) := by decide +kernel
theorem dX11_open_25 : decode cX11_open 25 = .ok (.iconst 0, 1) := by decide +kernel
theorem dX11_open_26 : decode cX11_open 26 = .ok (.iastore, 1) := by decide +kernel
theorem dX11_open_27 : decode cX11_open 27 = .ok (.aload_n 0, 1) := by decide +kernel
theorem dX11_open_28 : decode cX11_open 28 = .ok (.getfield 22, 3) := by decide +kernel
theorem dX11_open_31 : decode cX11_open 31 = .ok (.iload_n 1, 1) := by decide +kernel
theorem dX11_open_32 : decode cX11_open 32 = .ok (.iconst 0, 1) := by decide +kernel
theorem dX11_open_33 : decode cX11_open 33 = .ok (.iastore, 1) := by decide +kernel
theorem dX11_open_34 : decode cX11_open 34 = .ok (.return_, 1) := by decide +kernel
theorem dX11_atEnd_0 : decode cX11_atEnd 0 = .ok (.aload_n 0, 1) := by decide +kernel
theorem dX11_atEnd_1 : decode cX11_atEnd 1 = .ok (.getfield 110, 3) := by decide +kernel
theorem dX11_atEnd_4 : decode cX11_atEnd 4 = .ok (.iconst (-1), 1) := by decide +kernel
theorem dX11_atEnd_5 : decode cX11_atEnd 5 = .ok (.if_icmp .ne 15, 3) := by decide +kernel
theorem dX11_atEnd_8 : decode cX11_atEnd 8 = .ok (.aload_n 0, 1) := by decide +kernel
theorem dX11_atEnd_9 : decode cX11_atEnd 9 = .ok (.invokevirtual 122, 3) := by decide +kernel
theorem dX11_atEnd_12 : decode cX11_atEnd 12 = .ok (.iconst (-1), 1) := by decide +kernel
theorem dX11_atEnd_13 : decode cX11_atEnd 13 = .ok (.if_icmp .eq 7, 3) := by decide +kernel
theorem dX11_atEnd_16 : decode cX11_atEnd 16 = .ok (.aload_n 0, 1) := by decide +kernel
theorem dX11_atEnd_17 : decode cX11_atEnd 17 = .ok (.invokevirtual 119, 3) := by decide +kernel
theorem dX11_atEnd_20 : decode cX11_atEnd 20 = .ok (.aload_n 0, 1) := by decide +kernel
theorem dX11_atEnd_21 : decode cX11_atEnd 21 = .ok (.getfield 110, 3) := by decide +kernel
theorem dX11_atEnd_24 : decode cX11_atEnd 24 = .ok (.ireturn, 1) := by decide +kernel
theorem dX11_readLaw_0 : decode cX11_readLaw 0 = .ok (.aload_n 0, 1) := by decide +kernel
theorem dX11_readLaw_1 : decode cX11_readLaw 1 = .ok (.iload_n 1, 1) := by decide +kernel
theorem dX11_readLaw_2 : decode cX11_readLaw 2 = .ok (.invokevirtual 174, 3) := by decide +kernel
theorem dX11_readLaw_5 : decode cX11_readLaw 5 = .ok (.aload_n 0, 1) := by decide +kernel
theorem dX11_readLaw_6 : decode cX11_readLaw 6 = .ok (.invokevirtual 177, 3) := by decide +kernel
theorem dX11_readLaw_9 : decode cX11_readLaw 9 = .ok (.aload_n 0, 1) := by decide +kernel
theorem dX11_readLaw_10 : decode cX11_readLaw 10 = .ok (.getfield 110, 3) := by decide +kernel
theorem dX11_readLaw_13 : decode cX11_readLaw 13 = .ok (.iconst (-1), 1) := by decide +kernel
theorem dX11_readLaw_14 : decode cX11_readLaw 14 = .ok (.if_icmp .ne 29, 3) := by decide +kernel
theorem dX11_readLaw_17 : decode cX11_readLaw 17 = .ok (.aload_n 0, 1) := by decide +kernel
theorem dX11_readLaw_18 : decode cX11_readLaw 18 = .ok (.invokevirtual 122, 3) := by decide +kernel
theorem dX11_readLaw_21 : decode cX11_readLaw 21 = .ok (.bipush 59, 2) := by decide +kernel
theorem dX11_readLaw_23 : decode cX11_readLaw 23 = .ok (.if_icmp .ne 20, 3) := by decide +kernel
theorem dX11_readLaw_26 : decode cX11_readLaw 26 = .ok (.aload_n 0, 1) := by decide +kernel
theorem dX11_readLaw_27 : decode cX11_readLaw 27 = .ok (.dup, 1) := by decide +kernel
theorem dX11_readLaw_28 : decode cX11_readLaw 28 = .ok (.getfield 103, 3) := by decide +kernel
theorem dX11_readLaw_31 : decode cX11_readLaw 31 = .ok (.iconst 1, 1) := by decide +kernel
theorem dX11_readLaw_32 : decode cX11_readLaw 32 = .ok (.iadd, 1) := by decide +kernel
theorem dX11_readLaw_33 : decode cX11_readLaw 33 = .ok (.putfield 103, 3) := by decide +kernel
theorem dX11_readLaw_36 : decode cX11_readLaw 36 = .ok (.aload_n 0, 1) := by decide +kernel
theorem dX11_readLaw_37 : decode cX11_readLaw 37 = .ok (.invokevirtual 177, 3) := by decide +kernel
theorem dX11_readLaw_40 : decode cX11_readLaw 40 = .ok (.goto (-31), 3) := by decide +kernel
theorem dX11_readLaw_43 : decode cX11_readLaw 43 = .ok (.aload_n 0, 1) := by decide +kernel
theorem dX11_readLaw_44 : decode cX11_readLaw 44 = .ok (.invokevirtual 180, 3) := by decide +kernel
theorem dX11_readLaw_47 : decode cX11_readLaw 47 = .ok (.ireturn, 1) := by decide +kernel
theorem dX11_bounded_0 : decode cX11_bounded 0 = .ok (.ldc2_w 183, 3) := by decide +kernel
theorem dX11_bounded_3 : decode cX11_bounded 3 = .ok (.ldc2_w 185, 3) := by decide +kernel
theorem dX11_bounded_6 : decode cX11_bounded 6 = .ok (.lload_n 0, 1) := by decide +kernel
theorem dX11_bounded_7 : decode cX11_bounded 7 = .ok (.invokestatic 187, 3) := by decide +kernel
theorem dX11_bounded_10 : decode cX11_bounded 10 = .ok (.invokestatic 193, 3) := by decide +kernel
theorem dX11_bounded_13 : decode cX11_bounded 13 = .ok (.l2i, 1) := by decide +kernel
theorem dX11_bounded_14 : decode cX11_bounded 14 = .ok (.ireturn, 1) := by decide +kernel
theorem dX11_worked_0 : decode cX11_worked 0 = .ok (.iload_n 0, 1) := by decide +kernel
theorem dX11_worked_1 : decode cX11_worked 1 = .ok (.tableswitch 143 2 10 #[51, 58, 65, 72, 89, 101, 113, 143, 125], 51) := by decide +kernel
theorem dX11_worked_52 : decode cX11_worked 52 = .ok (.lload_n 1, 1) := by decide +kernel
theorem dX11_worked_53 : decode cX11_worked 53 = .ok (.lload_n 3, 1) := by decide +kernel
theorem dX11_worked_54 : decode cX11_worked 54 = .ok (.ladd, 1) := by decide +kernel
theorem dX11_worked_55 : decode cX11_worked 55 = .ok (.invokestatic 196, 3) := by decide +kernel
theorem dX11_worked_58 : decode cX11_worked 58 = .ok (.ireturn, 1) := by decide +kernel
theorem dX11_worked_59 : decode cX11_worked 59 = .ok (.lload_n 1, 1) := by decide +kernel
theorem dX11_worked_60 : decode cX11_worked 60 = .ok (.lload_n 3, 1) := by decide +kernel
theorem dX11_worked_61 : decode cX11_worked 61 = .ok (.lsub, 1) := by decide +kernel
theorem dX11_worked_62 : decode cX11_worked 62 = .ok (.invokestatic 196, 3) := by decide +kernel
theorem dX11_worked_65 : decode cX11_worked 65 = .ok (.ireturn, 1) := by decide +kernel
theorem dX11_worked_66 : decode cX11_worked 66 = .ok (.lload_n 1, 1) := by decide +kernel
theorem dX11_worked_67 : decode cX11_worked 67 = .ok (.lload_n 3, 1) := by decide +kernel
theorem dX11_worked_68 : decode cX11_worked 68 = .ok (.lmul, 1) := by decide +kernel
theorem dX11_worked_69 : decode cX11_worked 69 = .ok (.invokestatic 196, 3) := by decide +kernel
theorem dX11_worked_72 : decode cX11_worked 72 = .ok (.ireturn, 1) := by decide +kernel
theorem dX11_worked_73 : decode cX11_worked 73 = .ok (.lload_n 3, 1) := by decide +kernel
theorem dX11_worked_74 : decode cX11_worked 74 = .ok (.lconst 0, 1) := by decide +kernel
theorem dX11_worked_75 : decode cX11_worked 75 = .ok (.lcmp, 1) := by decide +kernel
theorem dX11_worked_76 : decode cX11_worked 76 = .ok (.ifCond .ne 7, 3) := by decide +kernel
theorem dX11_worked_79 : decode cX11_worked 79 = .ok (.iconst 0, 1) := by decide +kernel
theorem dX11_worked_80 : decode cX11_worked 80 = .ok (.goto 9, 3) := by decide +kernel
theorem dX11_worked_83 : decode cX11_worked 83 = .ok (.lload_n 1, 1) := by decide +kernel
theorem dX11_worked_84 : decode cX11_worked 84 = .ok (.lload_n 3, 1) := by decide +kernel
theorem dX11_worked_85 : decode cX11_worked 85 = .ok (.ldiv, 1) := by decide +kernel
theorem dX11_worked_86 : decode cX11_worked 86 = .ok (.invokestatic 196, 3) := by decide +kernel
theorem dX11_worked_89 : decode cX11_worked 89 = .ok (.ireturn, 1) := by decide +kernel
theorem dX11_worked_90 : decode cX11_worked 90 = .ok (.lload_n 1, 1) := by decide +kernel
theorem dX11_worked_91 : decode cX11_worked 91 = .ok (.lload_n 3, 1) := by decide +kernel
theorem dX11_worked_92 : decode cX11_worked 92 = .ok (.lcmp, 1) := by decide +kernel
theorem dX11_worked_93 : decode cX11_worked 93 = .ok (.ifCond .ne 7, 3) := by decide +kernel
theorem dX11_worked_96 : decode cX11_worked 96 = .ok (.iconst 1, 1) := by decide +kernel
theorem dX11_worked_97 : decode cX11_worked 97 = .ok (.goto 4, 3) := by decide +kernel
theorem dX11_worked_100 : decode cX11_worked 100 = .ok (.iconst 0, 1) := by decide +kernel
theorem dX11_worked_101 : decode cX11_worked 101 = .ok (.ireturn, 1) := by decide +kernel
theorem dX11_worked_102 : decode cX11_worked 102 = .ok (.lload_n 1, 1) := by decide +kernel
theorem dX11_worked_103 : decode cX11_worked 103 = .ok (.lload_n 3, 1) := by decide +kernel
theorem dX11_worked_104 : decode cX11_worked 104 = .ok (.lcmp, 1) := by decide +kernel
theorem dX11_worked_105 : decode cX11_worked 105 = .ok (.ifCond .ge 7, 3) := by decide +kernel
theorem dX11_worked_108 : decode cX11_worked 108 = .ok (.iconst 1, 1) := by decide +kernel
theorem dX11_worked_109 : decode cX11_worked 109 = .ok (.goto 4, 3) := by decide +kernel
theorem dX11_worked_112 : decode cX11_worked 112 = .ok (.iconst 0, 1) := by decide +kernel
theorem dX11_worked_113 : decode cX11_worked 113 = .ok (.ireturn, 1) := by decide +kernel
theorem dX11_worked_114 : decode cX11_worked 114 = .ok (.lload_n 1, 1) := by decide +kernel
theorem dX11_worked_115 : decode cX11_worked 115 = .ok (.lload_n 3, 1) := by decide +kernel
theorem dX11_worked_116 : decode cX11_worked 116 = .ok (.lcmp, 1) := by decide +kernel
theorem dX11_worked_117 : decode cX11_worked 117 = .ok (.ifCond .le 7, 3) := by decide +kernel
theorem dX11_worked_120 : decode cX11_worked 120 = .ok (.iconst 1, 1) := by decide +kernel
theorem dX11_worked_121 : decode cX11_worked 121 = .ok (.goto 4, 3) := by decide +kernel
theorem dX11_worked_124 : decode cX11_worked 124 = .ok (.iconst 0, 1) := by decide +kernel
theorem dX11_worked_125 : decode cX11_worked 125 = .ok (.ireturn, 1) := by decide +kernel
theorem dX11_worked_126 : decode cX11_worked 126 = .ok (.lload_n 1, 1) := by decide +kernel
theorem dX11_worked_127 : decode cX11_worked 127 = .ok (.lconst 0, 1) := by decide +kernel
theorem dX11_worked_128 : decode cX11_worked 128 = .ok (.lcmp, 1) := by decide +kernel
theorem dX11_worked_129 : decode cX11_worked 129 = .ok (.ifCond .eq 13, 3) := by decide +kernel
theorem dX11_worked_132 : decode cX11_worked 132 = .ok (.lload_n 3, 1) := by decide +kernel
theorem dX11_worked_133 : decode cX11_worked 133 = .ok (.lconst 0, 1) := by decide +kernel
theorem dX11_worked_134 : decode cX11_worked 134 = .ok (.lcmp, 1) := by decide +kernel
theorem dX11_worked_135 : decode cX11_worked 135 = .ok (.ifCond .eq 7, 3) := by decide +kernel
theorem dX11_worked_138 : decode cX11_worked 138 = .ok (.iconst 1, 1) := by decide +kernel
theorem dX11_worked_139 : decode cX11_worked 139 = .ok (.goto 4, 3) := by decide +kernel
theorem dX11_worked_142 : decode cX11_worked 142 = .ok (.iconst 0, 1) := by decide +kernel
theorem dX11_worked_143 : decode cX11_worked 143 = .ok (.ireturn, 1) := by decide +kernel
theorem dX11_worked_144 : decode cX11_worked 144 = .ok (.lload_n 1, 1) := by decide +kernel
theorem dX11_worked_145 : decode cX11_worked 145 = .ok (.lconst 0, 1) := by decide +kernel
theorem dX11_worked_146 : decode cX11_worked 146 = .ok (.lcmp, 1) := by decide +kernel
theorem dX11_worked_147 : decode cX11_worked 147 = .ok (.ifCond .ne 9, 3) := by decide +kernel
theorem dX11_worked_150 : decode cX11_worked 150 = .ok (.lload_n 3, 1) := by decide +kernel
theorem dX11_worked_151 : decode cX11_worked 151 = .ok (.lconst 0, 1) := by decide +kernel
theorem dX11_worked_152 : decode cX11_worked 152 = .ok (.lcmp, 1) := by decide +kernel
theorem dX11_worked_153 : decode cX11_worked 153 = .ok (.ifCond .eq 7, 3) := by decide +kernel
theorem dX11_worked_156 : decode cX11_worked 156 = .ok (.iconst 1, 1) := by decide +kernel
theorem dX11_worked_157 : decode cX11_worked 157 = .ok (.goto 4, 3) := by decide +kernel
theorem dX11_worked_160 : decode cX11_worked 160 = .ok (.iconst 0, 1) := by decide +kernel
theorem dX11_worked_161 : decode cX11_worked 161 = .ok (.ireturn, 1) := by decide +kernel
theorem dX11_workOut_0 : decode cX11_workOut 0 = .ok (.iconst 0, 1) := by decide +kernel
theorem dX11_workOut_1 : decode cX11_workOut 1 = .ok (.istore 4, 2) := by decide +kernel
theorem dX11_workOut_3 : decode cX11_workOut 3 = .ok (.sipush 520, 3) := by decide +kernel
theorem dX11_workOut_6 : decode cX11_workOut 6 = .ok (.iload_n 1, 1) := by decide +kernel
theorem dX11_workOut_7 : decode cX11_workOut 7 = .ok (.imul, 1) := by decide +kernel
theorem dX11_workOut_8 : decode cX11_workOut 8 = .ok (.iload_n 2, 1) := by decide +kernel
theorem dX11_workOut_9 : decode cX11_workOut 9 = .ok (.iadd, 1) := by decide +kernel
theorem dX11_workOut_10 : decode cX11_workOut 10 = .ok (.istore 5, 2) := by decide +kernel
theorem dX11_workOut_12 : decode cX11_workOut 12 = .ok (.iload 5, 2) := by decide +kernel
theorem dX11_workOut_14 : decode cX11_workOut 14 = .ok (.sipush 520, 3) := by decide +kernel
theorem dX11_workOut_17 : decode cX11_workOut 17 = .ok (.iload_n 1, 1) := by decide +kernel
theorem dX11_workOut_18 : decode cX11_workOut 18 = .ok (.imul, 1) := by decide +kernel
theorem dX11_workOut_19 : decode cX11_workOut 19 = .ok (.iload_n 3, 1) := by decide +kernel
theorem dX11_workOut_20 : decode cX11_workOut 20 = .ok (.iadd, 1) := by decide +kernel
theorem dX11_workOut_21 : decode cX11_workOut 21 = .ok (.if_icmp .ge 150, 3) := by decide +kernel
theorem dX11_workOut_24 : decode cX11_workOut 24 = .ok (.aload_n 0, 1) := by decide +kernel
theorem dX11_workOut_25 : decode cX11_workOut 25 = .ok (.getfield 13, 3) := by decide +kernel
theorem dX11_workOut_28 : decode cX11_workOut 28 = .ok (.iload 5, 2) := by decide +kernel
theorem dX11_workOut_30 : decode cX11_workOut 30 = .ok (.iaload, 1) := by decide +kernel
theorem dX11_workOut_31 : decode cX11_workOut 31 = .ok (.ifCond .eq 14, 3) := by decide +kernel
theorem dX11_workOut_34 : decode cX11_workOut 34 = .ok (.aload_n 0, 1) := by decide +kernel
theorem dX11_workOut_35 : decode cX11_workOut 35 = .ok (.getfield 13, 3) := by decide +kernel
theorem dX11_workOut_38 : decode cX11_workOut 38 = .ok (.iload 5, 2) := by decide +kernel
theorem dX11_workOut_40 : decode cX11_workOut 40 = .ok (.iaload, 1) := by decide +kernel
theorem dX11_workOut_41 : decode cX11_workOut 41 = .ok (.iconst 1, 1) := by decide +kernel
theorem dX11_workOut_42 : decode cX11_workOut 42 = .ok (.if_icmp .ne 48, 3) := by decide +kernel
theorem dX11_workOut_45 : decode cX11_workOut 45 = .ok (.aload_n 0, 1) := by decide +kernel
theorem dX11_workOut_46 : decode cX11_workOut 46 = .ok (.getfield 37, 3) := by decide +kernel
theorem dX11_workOut_49 : decode cX11_workOut 49 = .ok (.iload 4, 2) := by decide +kernel
theorem dX11_workOut_51 : decode cX11_workOut 51 = .ok (.aload_n 0, 1) := by decide +kernel
theorem dX11_workOut_52 : decode cX11_workOut 52 = .ok (.getfield 13, 3) := by decide +kernel
theorem dX11_workOut_55 : decode cX11_workOut 55 = .ok (.iload 5, 2) := by decide +kernel
theorem dX11_workOut_57 : decode cX11_workOut 57 = .ok (.iaload, 1) := by decide +kernel
theorem dX11_workOut_58 : decode cX11_workOut 58 = .ok (.ifCond .ne 13, 3) := by decide +kernel
theorem dX11_workOut_61 : decode cX11_workOut 61 = .ok (.aload_n 0, 1) := by decide +kernel
theorem dX11_workOut_62 : decode cX11_workOut 62 = .ok (.getfield 16, 3) := by decide +kernel
theorem dX11_workOut_65 : decode cX11_workOut 65 = .ok (.iload 5, 2) := by decide +kernel
theorem dX11_workOut_67 : decode cX11_workOut 67 = .ok (.iaload, 1) := by decide +kernel
theorem dX11_workOut_68 : decode cX11_workOut 68 = .ok (.goto 15, 3) := by decide +kernel
theorem dX11_workOut_71 : decode cX11_workOut 71 = .ok (.aload_n 0, 1) := by decide +kernel
theorem dX11_workOut_72 : decode cX11_workOut 72 = .ok (.getfield 34, 3) := by decide +kernel
theorem dX11_workOut_75 : decode cX11_workOut 75 = .ok (.aload_n 0, 1) := by decide +kernel
theorem dX11_workOut_76 : decode cX11_workOut 76 = .ok (.getfield 16, 3) := by decide +kernel
theorem dX11_workOut_79 : decode cX11_workOut 79 = .ok (.iload 5, 2) := by decide +kernel
theorem dX11_workOut_81 : decode cX11_workOut 81 = .ok (.iaload, 1) := by decide +kernel
theorem dX11_workOut_82 : decode cX11_workOut 82 = .ok (.iaload, 1) := by decide +kernel
theorem dX11_workOut_83 : decode cX11_workOut 83 = .ok (.iastore, 1) := by decide +kernel
theorem dX11_workOut_84 : decode cX11_workOut 84 = .ok (.iinc 4 1, 3) := by decide +kernel
theorem dX11_workOut_87 : decode cX11_workOut 87 = .ok (.goto 78, 3) := by decide +kernel
theorem dX11_workOut_90 : decode cX11_workOut 90 = .ok (.aload_n 0, 1) := by decide +kernel
theorem dX11_workOut_91 : decode cX11_workOut 91 = .ok (.getfield 13, 3) := by decide +kernel
theorem dX11_workOut_94 : decode cX11_workOut 94 = .ok (.iload 5, 2) := by decide +kernel
theorem dX11_workOut_96 : decode cX11_workOut 96 = .ok (.iaload, 1) := by decide +kernel
theorem dX11_workOut_97 : decode cX11_workOut 97 = .ok (.bipush 9, 2) := by decide +kernel
theorem dX11_workOut_99 : decode cX11_workOut 99 = .ok (.if_icmp .ne 26, 3) := by decide +kernel
theorem dX11_workOut_102 : decode cX11_workOut 102 = .ok (.aload_n 0, 1) := by decide +kernel
theorem dX11_workOut_103 : decode cX11_workOut 103 = .ok (.getfield 37, 3) := by decide +kernel
theorem dX11_workOut_106 : decode cX11_workOut 106 = .ok (.iload 4, 2) := by decide +kernel
theorem dX11_workOut_108 : decode cX11_workOut 108 = .ok (.iconst 1, 1) := by decide +kernel
theorem dX11_workOut_109 : decode cX11_workOut 109 = .ok (.isub, 1) := by decide +kernel
theorem dX11_workOut_110 : decode cX11_workOut 110 = .ok (.iconst 1, 1) := by decide +kernel
theorem dX11_workOut_111 : decode cX11_workOut 111 = .ok (.aload_n 0, 1) := by decide +kernel
theorem dX11_workOut_112 : decode cX11_workOut 112 = .ok (.getfield 37, 3) := by decide +kernel
theorem dX11_workOut_115 : decode cX11_workOut 115 = .ok (.iload 4, 2) := by decide +kernel
theorem dX11_workOut_117 : decode cX11_workOut 117 = .ok (.iconst 1, 1) := by decide +kernel
theorem dX11_workOut_118 : decode cX11_workOut 118 = .ok (.isub, 1) := by decide +kernel
theorem dX11_workOut_119 : decode cX11_workOut 119 = .ok (.iaload, 1) := by decide +kernel
theorem dX11_workOut_120 : decode cX11_workOut 120 = .ok (.isub, 1) := by decide +kernel
theorem dX11_workOut_121 : decode cX11_workOut 121 = .ok (.iastore, 1) := by decide +kernel
theorem dX11_workOut_122 : decode cX11_workOut 122 = .ok (.goto 43, 3) := by decide +kernel
theorem dX11_workOut_125 : decode cX11_workOut 125 = .ok (.iinc 4 (-1), 3) := by decide +kernel
theorem dX11_workOut_128 : decode cX11_workOut 128 = .ok (.aload_n 0, 1) := by decide +kernel
theorem dX11_workOut_129 : decode cX11_workOut 129 = .ok (.getfield 37, 3) := by decide +kernel
theorem dX11_workOut_132 : decode cX11_workOut 132 = .ok (.iload 4, 2) := by decide +kernel
theorem dX11_workOut_134 : decode cX11_workOut 134 = .ok (.iconst 1, 1) := by decide +kernel
theorem dX11_workOut_135 : decode cX11_workOut 135 = .ok (.isub, 1) := by decide +kernel
theorem dX11_workOut_136 : decode cX11_workOut 136 = .ok (.aload_n 0, 1) := by decide +kernel
theorem dX11_workOut_137 : decode cX11_workOut 137 = .ok (.getfield 13, 3) := by decide +kernel
theorem dX11_workOut_140 : decode cX11_workOut 140 = .ok (.iload 5, 2) := by decide +kernel
theorem dX11_workOut_142 : decode cX11_workOut 142 = .ok (.iaload, 1) := by decide +kernel
theorem dX11_workOut_143 : decode cX11_workOut 143 = .ok (.aload_n 0, 1) := by decide +kernel
theorem dX11_workOut_144 : decode cX11_workOut 144 = .ok (.getfield 37, 3) := by decide +kernel
theorem dX11_workOut_147 : decode cX11_workOut 147 = .ok (.iload 4, 2) := by decide +kernel
theorem dX11_workOut_149 : decode cX11_workOut 149 = .ok (.iconst 1, 1) := by decide +kernel
theorem dX11_workOut_150 : decode cX11_workOut 150 = .ok (.isub, 1) := by decide +kernel
theorem dX11_workOut_151 : decode cX11_workOut 151 = .ok (.iaload, 1) := by decide +kernel
theorem dX11_workOut_152 : decode cX11_workOut 152 = .ok (.i2l, 1) := by decide +kernel
theorem dX11_workOut_153 : decode cX11_workOut 153 = .ok (.aload_n 0, 1) := by decide +kernel
theorem dX11_workOut_154 : decode cX11_workOut 154 = .ok (.getfield 37, 3) := by decide +kernel
theorem dX11_workOut_157 : decode cX11_workOut 157 = .ok (.iload 4, 2) := by decide +kernel
theorem dX11_workOut_159 : decode cX11_workOut 159 = .ok (.iaload, 1) := by decide +kernel
theorem dX11_workOut_160 : decode cX11_workOut 160 = .ok (.i2l, 1) := by decide +kernel
theorem dX11_workOut_161 : decode cX11_workOut 161 = .ok (.invokestatic 200, 3) := by decide +kernel
theorem dX11_workOut_164 : decode cX11_workOut 164 = .ok (.iastore, 1) := by decide +kernel
theorem dX11_workOut_165 : decode cX11_workOut 165 = .ok (.iinc 5 1, 3) := by decide +kernel
theorem dX11_workOut_168 : decode cX11_workOut 168 = .ok (.goto (-156), 3) := by decide +kernel
theorem dX11_workOut_171 : decode cX11_workOut 171 = .ok (.aload_n 0, 1) := by decide +kernel
theorem dX11_workOut_172 : decode cX11_workOut 172 = .ok (.getfield 37, 3) := by decide +kernel
theorem dX11_workOut_175 : decode cX11_workOut 175 = .ok (.iconst 0, 1) := by decide +kernel
theorem dX11_workOut_176 : decode cX11_workOut 176 = .ok (.iaload, 1) := by decide +kernel
theorem dX11_workOut_177 : decode cX11_workOut 177 = .ok (.ireturn, 1) := by decide +kernel
theorem dX11_worthOf_0 : decode cX11_worthOf 0 = .ok (.sipush 140, 3) := by decide +kernel
theorem dX11_worthOf_3 : decode cX11_worthOf 3 = .ok (.iload_n 1, 1) := by decide +kernel
theorem dX11_worthOf_4 : decode cX11_worthOf 4 = .ok (.imul, 1) := by decide +kernel
theorem dX11_worthOf_5 : decode cX11_worthOf 5 = .ok (.istore_n 2, 1) := by decide +kernel
theorem dX11_worthOf_6 : decode cX11_worthOf 6 = .ok (.iload_n 2, 1) := by decide +kernel
theorem dX11_worthOf_7 : decode cX11_worthOf 7 = .ok (.sipush 140, 3) := by decide +kernel
theorem dX11_worthOf_10 : decode cX11_worthOf 10 = .ok (.iload_n 1, 1) := by decide +kernel
theorem dX11_worthOf_11 : decode cX11_worthOf 11 = .ok (.imul, 1) := by decide +kernel
theorem dX11_worthOf_12 : decode cX11_worthOf 12 = .ok (.aload_n 0, 1) := by decide +kernel
theorem dX11_worthOf_13 : decode cX11_worthOf 13 = .ok (.getfield 22, 3) := by decide +kernel
theorem dX11_worthOf_16 : decode cX11_worthOf 16 = .ok (.iload_n 1, 1) := by decide +kernel
theorem dX11_worthOf_17 : decode cX11_worthOf 17 = .ok (.iaload, 1) := by decide +kernel
theorem dX11_worthOf_18 : decode cX11_worthOf 18 = .ok (.iadd, 1) := by decide +kernel
theorem dX11_worthOf_19 : decode cX11_worthOf 19 = .ok (.if_icmp .ge 62, 3) := by decide +kernel
theorem dX11_worthOf_22 : decode cX11_worthOf 22 = .ok (.aload_n 0, 1) := by decide +kernel
theorem dX11_worthOf_23 : decode cX11_worthOf 23 = .ok (.getfield 25, 3) := by decide +kernel
theorem dX11_worthOf_26 : decode cX11_worthOf 26 = .ok (.iload_n 2, 1) := by decide +kernel
theorem dX11_worthOf_27 : decode cX11_worthOf 27 = .ok (.iaload, 1) := by decide +kernel
theorem dX11_worthOf_28 : decode cX11_worthOf 28 = .ok (.aload_n 0, 1) := by decide +kernel
theorem dX11_worthOf_29 : decode cX11_worthOf 29 = .ok (.getfield 28, 3) := by decide +kernel
theorem dX11_worthOf_32 : decode cX11_worthOf 32 = .ok (.iload_n 2, 1) := by decide +kernel
theorem dX11_worthOf_33 : decode cX11_worthOf 33 = .ok (.iaload, 1) := by decide +kernel
theorem dX11_worthOf_34 : decode cX11_worthOf 34 = .ok (.if_icmp .eq 23, 3) := by decide +kernel
theorem dX11_worthOf_37 : decode cX11_worthOf 37 = .ok (.aload_n 0, 1) := by decide +kernel
theorem dX11_worthOf_38 : decode cX11_worthOf 38 = .ok (.iload_n 1, 1) := by decide +kernel
theorem dX11_worthOf_39 : decode cX11_worthOf 39 = .ok (.aload_n 0, 1) := by decide +kernel
theorem dX11_worthOf_40 : decode cX11_worthOf 40 = .ok (.getfield 25, 3) := by decide +kernel
theorem dX11_worthOf_43 : decode cX11_worthOf 43 = .ok (.iload_n 2, 1) := by decide +kernel
theorem dX11_worthOf_44 : decode cX11_worthOf 44 = .ok (.iaload, 1) := by decide +kernel
theorem dX11_worthOf_45 : decode cX11_worthOf 45 = .ok (.aload_n 0, 1) := by decide +kernel
theorem dX11_worthOf_46 : decode cX11_worthOf 46 = .ok (.getfield 28, 3) := by decide +kernel
theorem dX11_worthOf_49 : decode cX11_worthOf 49 = .ok (.iload_n 2, 1) := by decide +kernel
theorem dX11_worthOf_50 : decode cX11_worthOf 50 = .ok (.iaload, 1) := by decide +kernel
theorem dX11_worthOf_51 : decode cX11_worthOf 51 = .ok (.invokevirtual 204, 3) := by decide +kernel
theorem dX11_worthOf_54 : decode cX11_worthOf 54 = .ok (.ifCond .eq 21, 3) := by decide +kernel
theorem dX11_worthOf_57 : decode cX11_worthOf 57 = .ok (.aload_n 0, 1) := by decide +kernel
theorem dX11_worthOf_58 : decode cX11_worthOf 58 = .ok (.iload_n 1, 1) := by decide +kernel
theorem dX11_worthOf_59 : decode cX11_worthOf 59 = .ok (.aload_n 0, 1) := by decide +kernel
theorem dX11_worthOf_60 : decode cX11_worthOf 60 = .ok (.getfield 28, 3) := by decide +kernel
theorem dX11_worthOf_63 : decode cX11_worthOf 63 = .ok (.iload_n 2, 1) := by decide +kernel
theorem dX11_worthOf_64 : decode cX11_worthOf 64 = .ok (.iaload, 1) := by decide +kernel
theorem dX11_worthOf_65 : decode cX11_worthOf 65 = .ok (.aload_n 0, 1) := by decide +kernel
theorem dX11_worthOf_66 : decode cX11_worthOf 66 = .ok (.getfield 31, 3) := by decide +kernel
theorem dX11_worthOf_69 : decode cX11_worthOf 69 = .ok (.iload_n 2, 1) := by decide +kernel
theorem dX11_worthOf_70 : decode cX11_worthOf 70 = .ok (.iaload, 1) := by decide +kernel
theorem dX11_worthOf_71 : decode cX11_worthOf 71 = .ok (.invokevirtual 204, 3) := by decide +kernel
theorem dX11_worthOf_74 : decode cX11_worthOf 74 = .ok (.ireturn, 1) := by decide +kernel
theorem dX11_worthOf_75 : decode cX11_worthOf 75 = .ok (.iinc 2 1, 3) := by decide +kernel
theorem dX11_worthOf_78 : decode cX11_worthOf 78 = .ok (.goto (-72), 3) := by decide +kernel
theorem dX11_worthOf_81 : decode cX11_worthOf 81 = .ok (.iconst 0, 1) := by decide +kernel
theorem dX11_worthOf_82 : decode cX11_worthOf 82 = .ok (.ireturn, 1) := by decide +kernel
theorem dX11_number_0 : decode cX11_number 0 = .ok (.aload_n 0, 1) := by decide +kernel
theorem dX11_number_1 : decode cX11_number 1 = .ok (.invokevirtual 122, 3) := by decide +kernel
theorem dX11_number_4 : decode cX11_number 4 = .ok (.invokestatic 125, 3) := by decide +kernel
theorem dX11_number_7 : decode cX11_number 7 = .ok (.ifCond .ne 9, 3) := by decide +kernel
theorem dX11_number_10 : decode cX11_number 10 = .ok (.aload_n 0, 1) := by decide +kernel
theorem dX11_number_11 : decode cX11_number 11 = .ok (.invokevirtual 119, 3) := by decide +kernel
theorem dX11_number_14 : decode cX11_number 14 = .ok (.iload_n 1, 1) := by decide +kernel
theorem dX11_number_15 : decode cX11_number 15 = .ok (.ireturn, 1) := by decide +kernel
theorem dX11_number_16 : decode cX11_number 16 = .ok (.aload_n 0, 1) := by decide +kernel
theorem dX11_number_17 : decode cX11_number 17 = .ok (.invokevirtual 106, 3) := by decide +kernel
theorem dX11_number_20 : decode cX11_number 20 = .ok (.bipush 48, 2) := by decide +kernel
theorem dX11_number_22 : decode cX11_number 22 = .ok (.isub, 1) := by decide +kernel
theorem dX11_number_23 : decode cX11_number 23 = .ok (.istore_n 3, 1) := by decide +kernel
theorem dX11_number_24 : decode cX11_number 24 = .ok (.aload_n 0, 1) := by decide +kernel
theorem dX11_number_25 : decode cX11_number 25 = .ok (.dup, 1) := by decide +kernel
theorem dX11_number_26 : decode cX11_number 26 = .ok (.getfield 103, 3) := by decide +kernel
theorem dX11_number_29 : decode cX11_number 29 = .ok (.iconst 1, 1) := by decide +kernel
theorem dX11_number_30 : decode cX11_number 30 = .ok (.iadd, 1) := by decide +kernel
theorem dX11_number_31 : decode cX11_number 31 = .ok (.putfield 103, 3) := by decide +kernel
theorem dX11_number_34 : decode cX11_number 34 = .ok (.aload_n 0, 1) := by decide +kernel
theorem dX11_number_35 : decode cX11_number 35 = .ok (.invokevirtual 106, 3) := by decide +kernel
theorem dX11_number_38 : decode cX11_number 38 = .ok (.invokestatic 125, 3) := by decide +kernel
theorem dX11_number_41 : decode cX11_number 41 = .ok (.ifCond .eq 26, 3) := by decide +kernel
theorem dX11_number_44 : decode cX11_number 44 = .ok (.bipush 10, 2) := by decide +kernel
theorem dX11_number_46 : decode cX11_number 46 = .ok (.iload_n 3, 1) := by decide +kernel
theorem dX11_number_47 : decode cX11_number 47 = .ok (.imul, 1) := by decide +kernel
theorem dX11_number_48 : decode cX11_number 48 = .ok (.aload_n 0, 1) := by decide +kernel
theorem dX11_number_49 : decode cX11_number 49 = .ok (.invokevirtual 106, 3) := by decide +kernel
theorem dX11_number_52 : decode cX11_number 52 = .ok (.iadd, 1) := by decide +kernel
theorem dX11_number_53 : decode cX11_number 53 = .ok (.bipush 48, 2) := by decide +kernel
theorem dX11_number_55 : decode cX11_number 55 = .ok (.isub, 1) := by decide +kernel
theorem dX11_number_56 : decode cX11_number 56 = .ok (.istore_n 3, 1) := by decide +kernel
theorem dX11_number_57 : decode cX11_number 57 = .ok (.aload_n 0, 1) := by decide +kernel
theorem dX11_number_58 : decode cX11_number 58 = .ok (.dup, 1) := by decide +kernel
theorem dX11_number_59 : decode cX11_number 59 = .ok (.getfield 103, 3) := by decide +kernel
theorem dX11_number_62 : decode cX11_number 62 = .ok (.iconst 1, 1) := by decide +kernel
theorem dX11_number_63 : decode cX11_number 63 = .ok (.iadd, 1) := by decide +kernel
theorem dX11_number_64 : decode cX11_number 64 = .ok (.putfield 103, 3) := by decide +kernel
theorem dX11_number_67 : decode cX11_number 67 = .ok (.aload_n 0, 1) := by decide +kernel
theorem dX11_number_68 : decode cX11_number 68 = .ok (.invokevirtual 106, 3) := by decide +kernel
theorem dX11_number_71 : decode cX11_number 71 = .ok (.invokestatic 125, 3) := by decide +kernel
theorem dX11_number_74 : decode cX11_number 74 = .ok (.ifCond .eq 10, 3) := by decide +kernel
theorem dX11_number_77 : decode cX11_number 77 = .ok (.aload_n 0, 1) := by decide +kernel
theorem dX11_number_78 : decode cX11_number 78 = .ok (.invokevirtual 119, 3) := by decide +kernel
theorem dX11_number_81 : decode cX11_number 81 = .ok (.goto 26, 3) := by decide +kernel
theorem dX11_number_84 : decode cX11_number 84 = .ok (.iload_n 3, 1) := by decide +kernel
theorem dX11_number_85 : decode cX11_number 85 = .ok (.iload_n 1, 1) := by decide +kernel
theorem dX11_number_86 : decode cX11_number 86 = .ok (.iload_n 2, 1) := by decide +kernel
theorem dX11_number_87 : decode cX11_number 87 = .ok (.invokestatic 208, 3) := by decide +kernel
theorem dX11_number_90 : decode cX11_number 90 = .ok (.ifCond .ne 17, 3) := by decide +kernel
theorem dX11_number_93 : decode cX11_number 93 = .ok (.aload_n 0, 1) := by decide +kernel
theorem dX11_number_94 : decode cX11_number 94 = .ok (.dup, 1) := by decide +kernel
theorem dX11_number_95 : decode cX11_number 95 = .ok (.getfield 103, 3) := by decide +kernel
theorem dX11_number_98 : decode cX11_number 98 = .ok (.iconst 1, 1) := by decide +kernel
theorem dX11_number_99 : decode cX11_number 99 = .ok (.isub, 1) := by decide +kernel
theorem dX11_number_100 : decode cX11_number 100 = .ok (.putfield 103, 3) := by decide +kernel
theorem dX11_number_103 : decode cX11_number 103 = .ok (.aload_n 0, 1) := by decide +kernel
theorem dX11_number_104 : decode cX11_number 104 = .ok (.invokevirtual 119, 3) := by decide +kernel
theorem dX11_number_107 : decode cX11_number 107 = .ok (.iload_n 3, 1) := by decide +kernel
theorem dX11_number_108 : decode cX11_number 108 = .ok (.ireturn, 1) := by decide +kernel
theorem dX11_itemOf_0 : decode cX11_itemOf 0 = .ok (.iload_n 0, 1) := by decide +kernel
theorem dX11_itemOf_1 : decode cX11_itemOf 1 = .ok (.lookupswitch 121 #[(98, 67), (109, 89), (115, 35)], 35) := by decide +kernel
theorem dX11_itemOf_36 : decode cX11_itemOf 36 = .ok (.iload_n 1, 1) := by decide +kernel
theorem dX11_itemOf_37 : decode cX11_itemOf 37 = .ok (.bipush 108, 2) := by decide +kernel
theorem dX11_itemOf_39 : decode cX11_itemOf 39 = .ok (.if_icmp .ne 7, 3) := by decide +kernel
theorem dX11_itemOf_42 : decode cX11_itemOf 42 = .ok (.iconst 0, 1) := by decide +kernel
theorem dX11_itemOf_43 : decode cX11_itemOf 43 = .ok (.goto 24, 3) := by decide +kernel
theorem dX11_itemOf_46 : decode cX11_itemOf 46 = .ok (.iload_n 1, 1) := by decide +kernel
theorem dX11_itemOf_47 : decode cX11_itemOf 47 = .ok (.bipush 114, 2) := by decide +kernel
theorem dX11_itemOf_49 : decode cX11_itemOf 49 = .ok (.if_icmp .ne 7, 3) := by decide +kernel
theorem dX11_itemOf_52 : decode cX11_itemOf 52 = .ok (.iconst 1, 1) := by decide +kernel
theorem dX11_itemOf_53 : decode cX11_itemOf 53 = .ok (.goto 14, 3) := by decide +kernel
theorem dX11_itemOf_56 : decode cX11_itemOf 56 = .ok (.iload_n 1, 1) := by decide +kernel
theorem dX11_itemOf_57 : decode cX11_itemOf 57 = .ok (.bipush 99, 2) := by decide +kernel
theorem dX11_itemOf_59 : decode cX11_itemOf 59 = .ok (.if_icmp .ne 7, 3) := by decide +kernel
theorem dX11_itemOf_62 : decode cX11_itemOf 62 = .ok (.iconst 2, 1) := by decide +kernel
theorem dX11_itemOf_63 : decode cX11_itemOf 63 = .ok (.goto 4, 3) := by decide +kernel
theorem dX11_itemOf_66 : decode cX11_itemOf 66 = .ok (.iconst (-1), 1) := by decide +kernel
theorem dX11_itemOf_67 : decode cX11_itemOf 67 = .ok (.ireturn, 1) := by decide +kernel
theorem dX11_itemOf_68 : decode cX11_itemOf 68 = .ok (.iload_n 1, 1) := by decide +kernel
theorem dX11_itemOf_69 : decode cX11_itemOf 69 = .ok (.bipush 107, 2) := by decide +kernel
theorem dX11_itemOf_71 : decode cX11_itemOf 71 = .ok (.if_icmp .ne 7, 3) := by decide +kernel
theorem dX11_itemOf_74 : decode cX11_itemOf 74 = .ok (.iconst 0, 1) := by decide +kernel
theorem dX11_itemOf_75 : decode cX11_itemOf 75 = .ok (.goto 14, 3) := by decide +kernel
theorem dX11_itemOf_78 : decode cX11_itemOf 78 = .ok (.iload_n 1, 1) := by decide +kernel
theorem dX11_itemOf_79 : decode cX11_itemOf 79 = .ok (.bipush 112, 2) := by decide +kernel
theorem dX11_itemOf_81 : decode cX11_itemOf 81 = .ok (.if_icmp .ne 7, 3) := by decide +kernel
theorem dX11_itemOf_84 : decode cX11_itemOf 84 = .ok (.iconst 1, 1) := by decide +kernel
theorem dX11_itemOf_85 : decode cX11_itemOf 85 = .ok (.goto 4, 3) := by decide +kernel
theorem dX11_itemOf_88 : decode cX11_itemOf 88 = .ok (.iconst (-1), 1) := by decide +kernel
theorem dX11_itemOf_89 : decode cX11_itemOf 89 = .ok (.ireturn, 1) := by decide +kernel
theorem dX11_itemOf_90 : decode cX11_itemOf 90 = .ok (.iload_n 1, 1) := by decide +kernel
theorem dX11_itemOf_91 : decode cX11_itemOf 91 = .ok (.bipush 111, 2) := by decide +kernel
theorem dX11_itemOf_93 : decode cX11_itemOf 93 = .ok (.if_icmp .ne 7, 3) := by decide +kernel
theorem dX11_itemOf_96 : decode cX11_itemOf 96 = .ok (.iconst 0, 1) := by decide +kernel
theorem dX11_itemOf_97 : decode cX11_itemOf 97 = .ok (.goto 24, 3) := by decide +kernel
theorem dX11_itemOf_100 : decode cX11_itemOf 100 = .ok (.iload_n 1, 1) := by decide +kernel
theorem dX11_itemOf_101 : decode cX11_itemOf 101 = .ok (.bipush 119, 2) := by decide +kernel
theorem dX11_itemOf_103 : decode cX11_itemOf 103 = .ok (.if_icmp .ne 7, 3) := by decide +kernel
theorem dX11_itemOf_106 : decode cX11_itemOf 106 = .ok (.iconst 1, 1) := by decide +kernel
theorem dX11_itemOf_107 : decode cX11_itemOf 107 = .ok (.goto 14, 3) := by decide +kernel
theorem dX11_itemOf_110 : decode cX11_itemOf 110 = .ok (.iload_n 1, 1) := by decide +kernel
theorem dX11_itemOf_111 : decode cX11_itemOf 111 = .ok (.bipush 115, 2) := by decide +kernel
theorem dX11_itemOf_113 : decode cX11_itemOf 113 = .ok (.if_icmp .ne 7, 3) := by decide +kernel
theorem dX11_itemOf_116 : decode cX11_itemOf 116 = .ok (.iconst 2, 1) := by decide +kernel
theorem dX11_itemOf_117 : decode cX11_itemOf 117 = .ok (.goto 4, 3) := by decide +kernel
theorem dX11_itemOf_120 : decode cX11_itemOf 120 = .ok (.iconst (-1), 1) := by decide +kernel
theorem dX11_itemOf_121 : decode cX11_itemOf 121 = .ok (.ireturn, 1) := by decide +kernel
theorem dX11_itemOf_122 : decode cX11_itemOf 122 = .ok (.iload_n 1, 1) := by decide +kernel
theorem dX11_itemOf_123 : decode cX11_itemOf 123 = .ok (.bipush 112, 2) := by decide +kernel
theorem dX11_itemOf_125 : decode cX11_itemOf 125 = .ok (.if_icmp .ne 7, 3) := by decide +kernel
theorem dX11_itemOf_128 : decode cX11_itemOf 128 = .ok (.iconst 0, 1) := by decide +kernel
theorem dX11_itemOf_129 : decode cX11_itemOf 129 = .ok (.goto 24, 3) := by decide +kernel
theorem dX11_itemOf_132 : decode cX11_itemOf 132 = .ok (.iload_n 1, 1) := by decide +kernel
theorem dX11_itemOf_133 : decode cX11_itemOf 133 = .ok (.bipush 119, 2) := by decide +kernel
theorem dX11_itemOf_135 : decode cX11_itemOf 135 = .ok (.if_icmp .ne 7, 3) := by decide +kernel
theorem dX11_itemOf_138 : decode cX11_itemOf 138 = .ok (.iconst 1, 1) := by decide +kernel
theorem dX11_itemOf_139 : decode cX11_itemOf 139 = .ok (.goto 14, 3) := by decide +kernel
theorem dX11_itemOf_142 : decode cX11_itemOf 142 = .ok (.iload_n 1, 1) := by decide +kernel
theorem dX11_itemOf_143 : decode cX11_itemOf 143 = .ok (.bipush 110, 2) := by decide +kernel
theorem dX11_itemOf_145 : decode cX11_itemOf 145 = .ok (.if_icmp .ne 7, 3) := by decide +kernel
theorem dX11_itemOf_148 : decode cX11_itemOf 148 = .ok (.iconst 2, 1) := by decide +kernel
theorem dX11_itemOf_149 : decode cX11_itemOf 149 = .ok (.goto 4, 3) := by decide +kernel
theorem dX11_itemOf_152 : decode cX11_itemOf 152 = .ok (.iconst (-1), 1) := by decide +kernel
theorem dX11_itemOf_153 : decode cX11_itemOf 153 = .ok (.ireturn, 1) := by decide +kernel
theorem dX11_lowest_0 : decode cX11_lowest 0 = .ok (.iload_n 0, 1) := by decide +kernel
theorem dX11_lowest_1 : decode cX11_lowest 1 = .ok (.lookupswitch 75 #[(98, 54), (109, 64), (115, 35)], 35) := by decide +kernel
theorem dX11_lowest_36 : decode cX11_lowest 36 = .ok (.iload_n 1, 1) := by decide +kernel
theorem dX11_lowest_37 : decode cX11_lowest 37 = .ok (.ifCond .ne 7, 3) := by decide +kernel
theorem dX11_lowest_40 : decode cX11_lowest 40 = .ok (.iconst 3, 1) := by decide +kernel
theorem dX11_lowest_41 : decode cX11_lowest 41 = .ok (.goto 13, 3) := by decide +kernel
theorem dX11_lowest_44 : decode cX11_lowest 44 = .ok (.iload_n 1, 1) := by decide +kernel
theorem dX11_lowest_45 : decode cX11_lowest 45 = .ok (.iconst 1, 1) := by decide +kernel
theorem dX11_lowest_46 : decode cX11_lowest 46 = .ok (.if_icmp .ne 7, 3) := by decide +kernel
theorem dX11_lowest_49 : decode cX11_lowest 49 = .ok (.iconst 1, 1) := by decide +kernel
theorem dX11_lowest_50 : decode cX11_lowest 50 = .ok (.goto 4, 3) := by decide +kernel
theorem dX11_lowest_53 : decode cX11_lowest 53 = .ok (.iconst 0, 1) := by decide +kernel
theorem dX11_lowest_54 : decode cX11_lowest 54 = .ok (.ireturn, 1) := by decide +kernel
theorem dX11_lowest_55 : decode cX11_lowest 55 = .ok (.iload_n 1, 1) := by decide +kernel
theorem dX11_lowest_56 : decode cX11_lowest 56 = .ok (.ifCond .ne 7, 3) := by decide +kernel
theorem dX11_lowest_59 : decode cX11_lowest 59 = .ok (.iconst 1, 1) := by decide +kernel
theorem dX11_lowest_60 : decode cX11_lowest 60 = .ok (.goto 4, 3) := by decide +kernel
theorem dX11_lowest_63 : decode cX11_lowest 63 = .ok (.iconst 0, 1) := by decide +kernel
theorem dX11_lowest_64 : decode cX11_lowest 64 = .ok (.ireturn, 1) := by decide +kernel
theorem dX11_lowest_65 : decode cX11_lowest 65 = .ok (.iload_n 1, 1) := by decide +kernel
theorem dX11_lowest_66 : decode cX11_lowest 66 = .ok (.iconst 2, 1) := by decide +kernel
theorem dX11_lowest_67 : decode cX11_lowest 67 = .ok (.if_icmp .ne 7, 3) := by decide +kernel
theorem dX11_lowest_70 : decode cX11_lowest 70 = .ok (.iconst 1, 1) := by decide +kernel
theorem dX11_lowest_71 : decode cX11_lowest 71 = .ok (.goto 4, 3) := by decide +kernel
theorem dX11_lowest_74 : decode cX11_lowest 74 = .ok (.iconst 0, 1) := by decide +kernel
theorem dX11_lowest_75 : decode cX11_lowest 75 = .ok (.ireturn, 1) := by decide +kernel
theorem dX11_lowest_76 : decode cX11_lowest 76 = .ok (.iconst 0, 1) := by decide +kernel
theorem dX11_lowest_77 : decode cX11_lowest 77 = .ok (.ireturn, 1) := by decide +kernel
theorem dX11_highest_0 : decode cX11_highest 0 = .ok (.iload_n 0, 1) := by decide +kernel
theorem dX11_highest_1 : decode cX11_highest 1 = .ok (.lookupswitch 80 #[(98, 57), (109, 60), (115, 35)], 35) := by decide +kernel
theorem dX11_highest_36 : decode cX11_highest 36 = .ok (.iload_n 1, 1) := by decide +kernel
theorem dX11_highest_37 : decode cX11_highest 37 = .ok (.ifCond .ne 8, 3) := by decide +kernel
theorem dX11_highest_40 : decode cX11_highest 40 = .ok (.bipush 30, 2) := by decide +kernel
theorem dX11_highest_42 : decode cX11_highest 42 = .ok (.goto 15, 3) := by decide +kernel
theorem dX11_highest_45 : decode cX11_highest 45 = .ok (.iload_n 1, 1) := by decide +kernel
theorem dX11_highest_46 : decode cX11_highest 46 = .ok (.iconst 1, 1) := by decide +kernel
theorem dX11_highest_47 : decode cX11_highest 47 = .ok (.if_icmp .ne 8, 3) := by decide +kernel
theorem dX11_highest_50 : decode cX11_highest 50 = .ok (.bipush 9, 2) := by decide +kernel
theorem dX11_highest_52 : decode cX11_highest 52 = .ok (.goto 5, 3) := by decide +kernel
theorem dX11_highest_55 : decode cX11_highest 55 = .ok (.bipush 99, 2) := by decide +kernel
theorem dX11_highest_57 : decode cX11_highest 57 = .ok (.ireturn, 1) := by decide +kernel
theorem dX11_highest_58 : decode cX11_highest 58 = .ok (.bipush 9, 2) := by decide +kernel
theorem dX11_highest_60 : decode cX11_highest 60 = .ok (.ireturn, 1) := by decide +kernel
theorem dX11_highest_61 : decode cX11_highest 61 = .ok (.iload_n 1, 1) := by decide +kernel
theorem dX11_highest_62 : decode cX11_highest 62 = .ok (.ifCond .ne 7, 3) := by decide +kernel
theorem dX11_highest_65 : decode cX11_highest 65 = .ok (.iconst 4, 1) := by decide +kernel
theorem dX11_highest_66 : decode cX11_highest 66 = .ok (.goto 14, 3) := by decide +kernel
theorem dX11_highest_69 : decode cX11_highest 69 = .ok (.iload_n 1, 1) := by decide +kernel
theorem dX11_highest_70 : decode cX11_highest 70 = .ok (.iconst 1, 1) := by decide +kernel
theorem dX11_highest_71 : decode cX11_highest 71 = .ok (.if_icmp .ne 7, 3) := by decide +kernel
theorem dX11_highest_74 : decode cX11_highest 74 = .ok (.iconst 5, 1) := by decide +kernel
theorem dX11_highest_75 : decode cX11_highest 75 = .ok (.goto 5, 3) := by decide +kernel
theorem dX11_highest_78 : decode cX11_highest 78 = .ok (.bipush 9, 2) := by decide +kernel
theorem dX11_highest_80 : decode cX11_highest 80 = .ok (.ireturn, 1) := by decide +kernel
theorem dX11_highest_81 : decode cX11_highest 81 = .ok (.iload_n 1, 1) := by decide +kernel
theorem dX11_highest_82 : decode cX11_highest 82 = .ok (.iconst 1, 1) := by decide +kernel
theorem dX11_highest_83 : decode cX11_highest 83 = .ok (.if_icmp .ne 7, 3) := by decide +kernel
theorem dX11_highest_86 : decode cX11_highest 86 = .ok (.iconst 5, 1) := by decide +kernel
theorem dX11_highest_87 : decode cX11_highest 87 = .ok (.goto 5, 3) := by decide +kernel
theorem dX11_highest_90 : decode cX11_highest 90 = .ok (.bipush 9, 2) := by decide +kernel
theorem dX11_highest_92 : decode cX11_highest 92 = .ok (.ireturn, 1) := by decide +kernel
theorem dX11_usual_0 : decode cX11_usual 0 = .ok (.iload_n 0, 1) := by decide +kernel
theorem dX11_usual_1 : decode cX11_usual 1 = .ok (.lookupswitch 77 #[(98, 56), (109, 66), (115, 35)], 35) := by decide +kernel
theorem dX11_usual_36 : decode cX11_usual 36 = .ok (.iload_n 1, 1) := by decide +kernel
theorem dX11_usual_37 : decode cX11_usual 37 = .ok (.ifCond .ne 8, 3) := by decide +kernel
theorem dX11_usual_40 : decode cX11_usual 40 = .ok (.bipush 12, 2) := by decide +kernel
theorem dX11_usual_42 : decode cX11_usual 42 = .ok (.goto 14, 3) := by decide +kernel
theorem dX11_usual_45 : decode cX11_usual 45 = .ok (.iload_n 1, 1) := by decide +kernel
theorem dX11_usual_46 : decode cX11_usual 46 = .ok (.iconst 1, 1) := by decide +kernel
theorem dX11_usual_47 : decode cX11_usual 47 = .ok (.if_icmp .ne 7, 3) := by decide +kernel
theorem dX11_usual_50 : decode cX11_usual 50 = .ok (.iconst 3, 1) := by decide +kernel
theorem dX11_usual_51 : decode cX11_usual 51 = .ok (.goto 5, 3) := by decide +kernel
theorem dX11_usual_54 : decode cX11_usual 54 = .ok (.bipush 10, 2) := by decide +kernel
theorem dX11_usual_56 : decode cX11_usual 56 = .ok (.ireturn, 1) := by decide +kernel
theorem dX11_usual_57 : decode cX11_usual 57 = .ok (.iload_n 1, 1) := by decide +kernel
theorem dX11_usual_58 : decode cX11_usual 58 = .ok (.ifCond .ne 7, 3) := by decide +kernel
theorem dX11_usual_61 : decode cX11_usual 61 = .ok (.iconst 5, 1) := by decide +kernel
theorem dX11_usual_62 : decode cX11_usual 62 = .ok (.goto 4, 3) := by decide +kernel
theorem dX11_usual_65 : decode cX11_usual 65 = .ok (.iconst 0, 1) := by decide +kernel
theorem dX11_usual_66 : decode cX11_usual 66 = .ok (.ireturn, 1) := by decide +kernel
theorem dX11_usual_67 : decode cX11_usual 67 = .ok (.iload_n 1, 1) := by decide +kernel
theorem dX11_usual_68 : decode cX11_usual 68 = .ok (.iconst 2, 1) := by decide +kernel
theorem dX11_usual_69 : decode cX11_usual 69 = .ok (.if_icmp .ne 7, 3) := by decide +kernel
theorem dX11_usual_72 : decode cX11_usual 72 = .ok (.iconst 3, 1) := by decide +kernel
theorem dX11_usual_73 : decode cX11_usual 73 = .ok (.goto 4, 3) := by decide +kernel
theorem dX11_usual_76 : decode cX11_usual 76 = .ok (.iconst 0, 1) := by decide +kernel
theorem dX11_usual_77 : decode cX11_usual 77 = .ok (.ireturn, 1) := by decide +kernel
theorem dX11_usual_78 : decode cX11_usual 78 = .ok (.iload_n 1, 1) := by decide +kernel
theorem dX11_usual_79 : decode cX11_usual 79 = .ok (.iconst 2, 1) := by decide +kernel
theorem dX11_usual_80 : decode cX11_usual 80 = .ok (.if_icmp .ne 7, 3) := by decide +kernel
theorem dX11_usual_83 : decode cX11_usual 83 = .ok (.iconst 2, 1) := by decide +kernel
theorem dX11_usual_84 : decode cX11_usual 84 = .ok (.goto 4, 3) := by decide +kernel
theorem dX11_usual_87 : decode cX11_usual 87 = .ok (.iconst 0, 1) := by decide +kernel
theorem dX11_usual_88 : decode cX11_usual 88 = .ok (.ireturn, 1) := by decide +kernel
theorem dX11_items_0 : decode cX11_items 0 = .ok (.iconst 0, 1) := by decide +kernel
theorem dX11_items_1 : decode cX11_items 1 = .ok (.istore 5, 2) := by decide +kernel
theorem dX11_items_3 : decode cX11_items 3 = .ok (.iload 5, 2) := by decide +kernel
theorem dX11_items_5 : decode cX11_items 5 = .ok (.iload 4, 2) := by decide +kernel
theorem dX11_items_7 : decode cX11_items 7 = .ok (.if_icmp .ge 21, 3) := by decide +kernel
theorem dX11_items_10 : decode cX11_items 10 = .ok (.aload_n 2, 1) := by decide +kernel
theorem dX11_items_11 : decode cX11_items 11 = .ok (.iload_n 3, 1) := by decide +kernel
theorem dX11_items_12 : decode cX11_items 12 = .ok (.iload 5, 2) := by decide +kernel
theorem dX11_items_14 : decode cX11_items 14 = .ok (.iadd, 1) := by decide +kernel
theorem dX11_items_15 : decode cX11_items 15 = .ok (.iload_n 1, 1) := by decide +kernel
theorem dX11_items_16 : decode cX11_items 16 = .ok (.iload 5, 2) := by decide +kernel
theorem dX11_items_18 : decode cX11_items 18 = .ok (.invokestatic 212, 3) := by decide +kernel
theorem dX11_items_21 : decode cX11_items 21 = .ok (.iastore, 1) := by decide +kernel
theorem dX11_items_22 : decode cX11_items 22 = .ok (.iinc 5 1, 3) := by decide +kernel
theorem dX11_items_25 : decode cX11_items 25 = .ok (.goto (-22), 3) := by decide +kernel
theorem dX11_items_28 : decode cX11_items 28 = .ok (.iconst 0, 1) := by decide +kernel
theorem dX11_items_29 : decode cX11_items 29 = .ok (.istore 5, 2) := by decide +kernel
theorem dX11_items_31 : decode cX11_items 31 = .ok (.iload_n 1, 1) := by decide +kernel
theorem dX11_items_32 : decode cX11_items 32 = .ok (.aload_n 0, 1) := by decide +kernel
theorem dX11_items_33 : decode cX11_items 33 = .ok (.invokevirtual 122, 3) := by decide +kernel
theorem dX11_items_36 : decode cX11_items 36 = .ok (.invokestatic 216, 3) := by decide +kernel
theorem dX11_items_39 : decode cX11_items 39 = .ok (.istore 6, 2) := by decide +kernel
theorem dX11_items_41 : decode cX11_items 41 = .ok (.aload_n 0, 1) := by decide +kernel
theorem dX11_items_42 : decode cX11_items 42 = .ok (.getfield 110, 3) := by decide +kernel
theorem dX11_items_45 : decode cX11_items 45 = .ok (.iconst (-1), 1) := by decide +kernel
theorem dX11_items_46 : decode cX11_items 46 = .ok (.if_icmp .ne 85, 3) := by decide +kernel
theorem dX11_items_49 : decode cX11_items 49 = .ok (.iload 6, 2) := by decide +kernel
theorem dX11_items_51 : decode cX11_items 51 = .ok (.iconst (-1), 1) := by decide +kernel
theorem dX11_items_52 : decode cX11_items 52 = .ok (.if_icmp .eq 79, 3) := by decide +kernel
theorem dX11_items_55 : decode cX11_items 55 = .ok (.iload 5, 2) := by decide +kernel
theorem dX11_items_57 : decode cX11_items 57 = .ok (.iload 6, 2) := by decide +kernel
theorem dX11_items_59 : decode cX11_items 59 = .ok (.invokestatic 219, 3) := by decide +kernel
theorem dX11_items_62 : decode cX11_items 62 = .ok (.ifCond .ne 69, 3) := by decide +kernel
theorem dX11_items_65 : decode cX11_items 65 = .ok (.iload 5, 2) := by decide +kernel
theorem dX11_items_67 : decode cX11_items 67 = .ok (.iconst 1, 1) := by decide +kernel
theorem dX11_items_68 : decode cX11_items 68 = .ok (.iload 6, 2) := by decide +kernel
theorem dX11_items_70 : decode cX11_items 70 = .ok (.ishl, 1) := by decide +kernel
theorem dX11_items_71 : decode cX11_items 71 = .ok (.ior, 1) := by decide +kernel
theorem dX11_items_72 : decode cX11_items 72 = .ok (.istore 5, 2) := by decide +kernel
theorem dX11_items_74 : decode cX11_items 74 = .ok (.aload_n 0, 1) := by decide +kernel
theorem dX11_items_75 : decode cX11_items 75 = .ok (.dup, 1) := by decide +kernel
theorem dX11_items_76 : decode cX11_items 76 = .ok (.getfield 103, 3) := by decide +kernel
theorem dX11_items_79 : decode cX11_items 79 = .ok (.iconst 1, 1) := by decide +kernel
theorem dX11_items_80 : decode cX11_items 80 = .ok (.iadd, 1) := by decide +kernel
theorem dX11_items_81 : decode cX11_items 81 = .ok (.putfield 103, 3) := by decide +kernel
theorem dX11_items_84 : decode cX11_items 84 = .ok (.aload_n 2, 1) := by decide +kernel
theorem dX11_items_85 : decode cX11_items 85 = .ok (.iload_n 3, 1) := by decide +kernel
theorem dX11_items_86 : decode cX11_items 86 = .ok (.iload 6, 2) := by decide +kernel
theorem dX11_items_88 : decode cX11_items 88 = .ok (.iadd, 1) := by decide +kernel
theorem dX11_items_89 : decode cX11_items 89 = .ok (.aload_n 0, 1) := by decide +kernel
theorem dX11_items_90 : decode cX11_items 90 = .ok (.iload_n 1, 1) := by decide +kernel
theorem dX11_items_91 : decode cX11_items 91 = .ok (.iload 6, 2) := by decide +kernel
theorem dX11_items_93 : decode cX11_items 93 = .ok (.invokestatic 223, 3) := by decide +kernel
theorem dX11_items_96 : decode cX11_items 96 = .ok (.iload_n 1, 1) := by decide +kernel
theorem dX11_items_97 : decode cX11_items 97 = .ok (.iload 6, 2) := by decide +kernel
theorem dX11_items_99 : decode cX11_items 99 = .ok (.invokestatic 226, 3) := by decide +kernel
theorem dX11_items_102 : decode cX11_items 102 = .ok (.invokevirtual 229, 3) := by decide +kernel
theorem dX11_items_105 : decode cX11_items 105 = .ok (.iastore, 1) := by decide +kernel
theorem dX11_items_106 : decode cX11_items 106 = .ok (.aload_n 0, 1) := by decide +kernel
theorem dX11_items_107 : decode cX11_items 107 = .ok (.getfield 110, 3) := by decide +kernel
theorem dX11_items_110 : decode cX11_items 110 = .ok (.iconst (-1), 1) := by decide +kernel
theorem dX11_items_111 : decode cX11_items 111 = .ok (.if_icmp .ne 14, 3) := by decide +kernel
theorem dX11_items_114 : decode cX11_items 114 = .ok (.iload_n 1, 1) := by decide +kernel
theorem dX11_items_115 : decode cX11_items 115 = .ok (.aload_n 0, 1) := by decide +kernel
theorem dX11_items_116 : decode cX11_items 116 = .ok (.invokevirtual 122, 3) := by decide +kernel
theorem dX11_items_119 : decode cX11_items 119 = .ok (.invokestatic 216, 3) := by decide +kernel
theorem dX11_items_122 : decode cX11_items 122 = .ok (.goto 4, 3) := by decide +kernel
theorem dX11_items_125 : decode cX11_items 125 = .ok (.iconst (-1), 1) := by decide +kernel
theorem dX11_items_126 : decode cX11_items 126 = .ok (.istore 6, 2) := by decide +kernel
theorem dX11_items_128 : decode cX11_items 128 = .ok (.goto (-87), 3) := by decide +kernel
theorem dX11_items_131 : decode cX11_items 131 = .ok (.return_, 1) := by decide +kernel
theorem dX11_clauseText_0 : decode cX11_clauseText 0 = .ok (.aload_n 0, 1) := by decide +kernel
theorem dX11_clauseText_1 : decode cX11_clauseText 1 = .ok (.dup, 1) := by decide +kernel
theorem dX11_clauseText_2 : decode cX11_clauseText 2 = .ok (.getfield 103, 3) := by decide +kernel
theorem dX11_clauseText_5 : decode cX11_clauseText 5 = .ok (.iconst 1, 1) := by decide +kernel
theorem dX11_clauseText_6 : decode cX11_clauseText 6 = .ok (.iadd, 1) := by decide +kernel
theorem dX11_clauseText_7 : decode cX11_clauseText 7 = .ok (.putfield 103, 3) := by decide +kernel
theorem dX11_clauseText_10 : decode cX11_clauseText 10 = .ok (.iload_n 1, 1) := by decide +kernel
theorem dX11_clauseText_11 : decode cX11_clauseText 11 = .ok (.lookupswitch 105 #[(98, 47), (109, 76), (115, 33)], 33) := by decide +kernel
theorem dX11_clauseText_44 : decode cX11_clauseText 44 = .ok (.aload_n 0, 1) := by decide +kernel
theorem dX11_clauseText_45 : decode cX11_clauseText 45 = .ok (.iload_n 1, 1) := by decide +kernel
theorem dX11_clauseText_46 : decode cX11_clauseText 46 = .ok (.aload_n 0, 1) := by decide +kernel
theorem dX11_clauseText_47 : decode cX11_clauseText 47 = .ok (.getfield 40, 3) := by decide +kernel
theorem dX11_clauseText_50 : decode cX11_clauseText 50 = .ok (.iconst 0, 1) := by decide +kernel
theorem dX11_clauseText_51 : decode cX11_clauseText 51 = .ok (.iconst 3, 1) := by decide +kernel
theorem dX11_clauseText_52 : decode cX11_clauseText 52 = .ok (.invokevirtual 232, 3) := by decide +kernel
theorem dX11_clauseText_55 : decode cX11_clauseText 55 = .ok (.goto 87, 3) := by decide +kernel
theorem dX11_clauseText_58 : decode cX11_clauseText 58 = .ok (.aload_n 0, 1) := by decide +kernel
theorem dX11_clauseText_59 : decode cX11_clauseText 59 = .ok (.iload_n 1, 1) := by decide +kernel
theorem dX11_clauseText_60 : decode cX11_clauseText 60 = .ok (.aload_n 0, 1) := by decide +kernel
theorem dX11_clauseText_61 : decode cX11_clauseText 61 = .ok (.getfield 43, 3) := by decide +kernel
theorem dX11_clauseText_64 : decode cX11_clauseText 64 = .ok (.iconst 2, 1) := by decide +kernel
theorem dX11_clauseText_65 : decode cX11_clauseText 65 = .ok (.aload_n 0, 1) := by decide +kernel
theorem dX11_clauseText_66 : decode cX11_clauseText 66 = .ok (.getfield 236, 3) := by decide +kernel
theorem dX11_clauseText_69 : decode cX11_clauseText 69 = .ok (.imul, 1) := by decide +kernel
theorem dX11_clauseText_70 : decode cX11_clauseText 70 = .ok (.iconst 2, 1) := by decide +kernel
theorem dX11_clauseText_71 : decode cX11_clauseText 71 = .ok (.invokevirtual 232, 3) := by decide +kernel
theorem dX11_clauseText_74 : decode cX11_clauseText 74 = .ok (.aload_n 0, 1) := by decide +kernel
theorem dX11_clauseText_75 : decode cX11_clauseText 75 = .ok (.dup, 1) := by decide +kernel
theorem dX11_clauseText_76 : decode cX11_clauseText 76 = .ok (.getfield 236, 3) := by decide +kernel
theorem dX11_clauseText_79 : decode cX11_clauseText 79 = .ok (.iconst 1, 1) := by decide +kernel
theorem dX11_clauseText_80 : decode cX11_clauseText 80 = .ok (.iadd, 1) := by decide +kernel
theorem dX11_clauseText_81 : decode cX11_clauseText 81 = .ok (.putfield 236, 3) := by decide +kernel
theorem dX11_clauseText_84 : decode cX11_clauseText 84 = .ok (.goto 58, 3) := by decide +kernel
theorem dX11_clauseText_87 : decode cX11_clauseText 87 = .ok (.aload_n 0, 1) := by decide +kernel
theorem dX11_clauseText_88 : decode cX11_clauseText 88 = .ok (.iload_n 1, 1) := by decide +kernel
theorem dX11_clauseText_89 : decode cX11_clauseText 89 = .ok (.aload_n 0, 1) := by decide +kernel
theorem dX11_clauseText_90 : decode cX11_clauseText 90 = .ok (.getfield 46, 3) := by decide +kernel
theorem dX11_clauseText_93 : decode cX11_clauseText 93 = .ok (.iconst 3, 1) := by decide +kernel
theorem dX11_clauseText_94 : decode cX11_clauseText 94 = .ok (.aload_n 0, 1) := by decide +kernel
theorem dX11_clauseText_95 : decode cX11_clauseText 95 = .ok (.getfield 239, 3) := by decide +kernel
theorem dX11_clauseText_98 : decode cX11_clauseText 98 = .ok (.imul, 1) := by decide +kernel
theorem dX11_clauseText_99 : decode cX11_clauseText 99 = .ok (.iconst 3, 1) := by decide +kernel
theorem dX11_clauseText_100 : decode cX11_clauseText 100 = .ok (.invokevirtual 232, 3) := by decide +kernel
theorem dX11_clauseText_103 : decode cX11_clauseText 103 = .ok (.aload_n 0, 1) := by decide +kernel
theorem dX11_clauseText_104 : decode cX11_clauseText 104 = .ok (.dup, 1) := by decide +kernel
theorem dX11_clauseText_105 : decode cX11_clauseText 105 = .ok (.getfield 239, 3) := by decide +kernel
theorem dX11_clauseText_108 : decode cX11_clauseText 108 = .ok (.iconst 1, 1) := by decide +kernel
theorem dX11_clauseText_109 : decode cX11_clauseText 109 = .ok (.iadd, 1) := by decide +kernel
theorem dX11_clauseText_110 : decode cX11_clauseText 110 = .ok (.putfield 239, 3) := by decide +kernel
theorem dX11_clauseText_113 : decode cX11_clauseText 113 = .ok (.goto 29, 3) := by decide +kernel
theorem dX11_clauseText_116 : decode cX11_clauseText 116 = .ok (.aload_n 0, 1) := by decide +kernel
theorem dX11_clauseText_117 : decode cX11_clauseText 117 = .ok (.iload_n 1, 1) := by decide +kernel
theorem dX11_clauseText_118 : decode cX11_clauseText 118 = .ok (.aload_n 0, 1) := by decide +kernel
theorem dX11_clauseText_119 : decode cX11_clauseText 119 = .ok (.getfield 49, 3) := by decide +kernel
theorem dX11_clauseText_122 : decode cX11_clauseText 122 = .ok (.iconst 3, 1) := by decide +kernel
theorem dX11_clauseText_123 : decode cX11_clauseText 123 = .ok (.aload_n 0, 1) := by decide +kernel
theorem dX11_clauseText_124 : decode cX11_clauseText 124 = .ok (.getfield 242, 3) := by decide +kernel
theorem dX11_clauseText_127 : decode cX11_clauseText 127 = .ok (.imul, 1) := by decide +kernel
theorem dX11_clauseText_128 : decode cX11_clauseText 128 = .ok (.iconst 3, 1) := by decide +kernel
theorem dX11_clauseText_129 : decode cX11_clauseText 129 = .ok (.invokevirtual 232, 3) := by decide +kernel
theorem dX11_clauseText_132 : decode cX11_clauseText 132 = .ok (.aload_n 0, 1) := by decide +kernel
theorem dX11_clauseText_133 : decode cX11_clauseText 133 = .ok (.dup, 1) := by decide +kernel
theorem dX11_clauseText_134 : decode cX11_clauseText 134 = .ok (.getfield 242, 3) := by decide +kernel
theorem dX11_clauseText_137 : decode cX11_clauseText 137 = .ok (.iconst 1, 1) := by decide +kernel
theorem dX11_clauseText_138 : decode cX11_clauseText 138 = .ok (.iadd, 1) := by decide +kernel
theorem dX11_clauseText_139 : decode cX11_clauseText 139 = .ok (.putfield 242, 3) := by decide +kernel
theorem dX11_clauseText_142 : decode cX11_clauseText 142 = .ok (.return_, 1) := by decide +kernel
theorem dX11_isWhole_0 : decode cX11_isWhole 0 = .ok (.aload_n 0, 1) := by decide +kernel
theorem dX11_isWhole_1 : decode cX11_isWhole 1 = .ok (.getfield 236, 3) := by decide +kernel
theorem dX11_isWhole_4 : decode cX11_isWhole 4 = .ok (.ifCond .le 14, 3) := by decide +kernel
theorem dX11_isWhole_7 : decode cX11_isWhole 7 = .ok (.aload_n 0, 1) := by decide +kernel
theorem dX11_isWhole_8 : decode cX11_isWhole 8 = .ok (.getfield 239, 3) := by decide +kernel
theorem dX11_isWhole_11 : decode cX11_isWhole 11 = .ok (.ifCond .le 7, 3) := by decide +kernel
theorem dX11_isWhole_14 : decode cX11_isWhole 14 = .ok (.iconst 1, 1) := by decide +kernel
theorem dX11_isWhole_15 : decode cX11_isWhole 15 = .ok (.goto 4, 3) := by decide +kernel
theorem dX11_isWhole_18 : decode cX11_isWhole 18 = .ok (.iconst 0, 1) := by decide +kernel
theorem dX11_isWhole_19 : decode cX11_isWhole 19 = .ok (.istore_n 1, 1) := by decide +kernel
theorem dX11_isWhole_20 : decode cX11_isWhole 20 = .ok (.iconst 0, 1) := by decide +kernel
theorem dX11_isWhole_21 : decode cX11_isWhole 21 = .ok (.istore_n 2, 1) := by decide +kernel
theorem dX11_isWhole_22 : decode cX11_isWhole 22 = .ok (.iload_n 2, 1) := by decide +kernel
theorem dX11_isWhole_23 : decode cX11_isWhole 23 = .ok (.aload_n 0, 1) := by decide +kernel
theorem dX11_isWhole_24 : decode cX11_isWhole 24 = .ok (.getfield 239, 3) := by decide +kernel
theorem dX11_isWhole_27 : decode cX11_isWhole 27 = .ok (.if_icmp .ge 36, 3) := by decide +kernel
theorem dX11_isWhole_30 : decode cX11_isWhole 30 = .ok (.iload_n 1, 1) := by decide +kernel
theorem dX11_isWhole_31 : decode cX11_isWhole 31 = .ok (.ifCond .eq 24, 3) := by decide +kernel
theorem dX11_isWhole_34 : decode cX11_isWhole 34 = .ok (.aload_n 0, 1) := by decide +kernel
theorem dX11_isWhole_35 : decode cX11_isWhole 35 = .ok (.getfield 46, 3) := by decide +kernel
theorem dX11_isWhole_38 : decode cX11_isWhole 38 = .ok (.iconst 3, 1) := by decide +kernel
theorem dX11_isWhole_39 : decode cX11_isWhole 39 = .ok (.iload_n 2, 1) := by decide +kernel
theorem dX11_isWhole_40 : decode cX11_isWhole 40 = .ok (.imul, 1) := by decide +kernel
theorem dX11_isWhole_41 : decode cX11_isWhole 41 = .ok (.iconst 0, 1) := by decide +kernel
theorem dX11_isWhole_42 : decode cX11_isWhole 42 = .ok (.iadd, 1) := by decide +kernel
theorem dX11_isWhole_43 : decode cX11_isWhole 43 = .ok (.iaload, 1) := by decide +kernel
theorem dX11_isWhole_44 : decode cX11_isWhole 44 = .ok (.aload_n 0, 1) := by decide +kernel
theorem dX11_isWhole_45 : decode cX11_isWhole 45 = .ok (.getfield 236, 3) := by decide +kernel
theorem dX11_isWhole_48 : decode cX11_isWhole 48 = .ok (.if_icmp .ge 7, 3) := by decide +kernel
theorem dX11_isWhole_51 : decode cX11_isWhole 51 = .ok (.iconst 1, 1) := by decide +kernel
theorem dX11_isWhole_52 : decode cX11_isWhole 52 = .ok (.goto 4, 3) := by decide +kernel
theorem dX11_isWhole_55 : decode cX11_isWhole 55 = .ok (.iconst 0, 1) := by decide +kernel
theorem dX11_isWhole_56 : decode cX11_isWhole 56 = .ok (.istore_n 1, 1) := by decide +kernel
theorem dX11_isWhole_57 : decode cX11_isWhole 57 = .ok (.iinc 2 1, 3) := by decide +kernel
theorem dX11_isWhole_60 : decode cX11_isWhole 60 = .ok (.goto (-38), 3) := by decide +kernel
theorem dX11_isWhole_63 : decode cX11_isWhole 63 = .ok (.iload_n 1, 1) := by decide +kernel
theorem dX11_isWhole_64 : decode cX11_isWhole 64 = .ok (.ireturn, 1) := by decide +kernel
theorem dX11_readYard_0 : decode cX11_readYard 0 = .ok (.aload_n 0, 1) := by decide +kernel
theorem dX11_readYard_1 : decode cX11_readYard 1 = .ok (.iconst 0, 1) := by decide +kernel
theorem dX11_readYard_2 : decode cX11_readYard 2 = .ok (.putfield 103, 3) := by decide +kernel
theorem dX11_readYard_5 : decode cX11_readYard 5 = .ok (.aload_n 0, 1) := by decide +kernel
theorem dX11_readYard_6 : decode cX11_readYard 6 = .ok (.iconst (-1), 1) := by decide +kernel
theorem dX11_readYard_7 : decode cX11_readYard 7 = .ok (.putfield 110, 3) := by decide +kernel
theorem dX11_readYard_10 : decode cX11_readYard 10 = .ok (.aload_n 0, 1) := by decide +kernel
theorem dX11_readYard_11 : decode cX11_readYard 11 = .ok (.iconst 0, 1) := by decide +kernel
theorem dX11_readYard_12 : decode cX11_readYard 12 = .ok (.putfield 236, 3) := by decide +kernel
theorem dX11_readYard_15 : decode cX11_readYard 15 = .ok (.aload_n 0, 1) := by decide +kernel
theorem dX11_readYard_16 : decode cX11_readYard 16 = .ok (.iconst 0, 1) := by decide +kernel
theorem dX11_readYard_17 : decode cX11_readYard 17 = .ok (.putfield 239, 3) := by decide +kernel
theorem dX11_readYard_20 : decode cX11_readYard 20 = .ok (.aload_n 0, 1) := by decide +kernel
theorem dX11_readYard_21 : decode cX11_readYard 21 = .ok (.iconst 0, 1) := by decide +kernel
theorem dX11_readYard_22 : decode cX11_readYard 22 = .ok (.putfield 242, 3) := by decide +kernel
theorem dX11_readYard_25 : decode cX11_readYard 25 = .ok (.iconst 0, 1) := by decide +kernel
theorem dX11_readYard_26 : decode cX11_readYard 26 = .ok (.istore_n 1, 1) := by decide +kernel
theorem dX11_readYard_27 : decode cX11_readYard 27 = .ok (.iconst 0, 1) := by decide +kernel
theorem dX11_readYard_28 : decode cX11_readYard 28 = .ok (.istore_n 2, 1) := by decide +kernel
theorem dX11_readYard_29 : decode cX11_readYard 29 = .ok (.iload_n 2, 1) := by decide +kernel
theorem dX11_readYard_30 : decode cX11_readYard 30 = .ok (.iconst 3, 1) := by decide +kernel
theorem dX11_readYard_31 : decode cX11_readYard 31 = .ok (.if_icmp .ge 21, 3) := by decide +kernel
theorem dX11_readYard_34 : decode cX11_readYard 34 = .ok (.aload_n 0, 1) := by decide +kernel
theorem dX11_readYard_35 : decode cX11_readYard 35 = .ok (.getfield 40, 3) := by decide +kernel
theorem dX11_readYard_38 : decode cX11_readYard 38 = .ok (.iload_n 2, 1) := by decide +kernel
theorem dX11_readYard_39 : decode cX11_readYard 39 = .ok (.bipush 115, 2) := by decide +kernel
theorem dX11_readYard_41 : decode cX11_readYard 41 = .ok (.iload_n 2, 1) := by decide +kernel
theorem dX11_readYard_42 : decode cX11_readYard 42 = .ok (.invokestatic 212, 3) := by decide +kernel
theorem dX11_readYard_45 : decode cX11_readYard 45 = .ok (.iastore, 1) := by decide +kernel
theorem dX11_readYard_46 : decode cX11_readYard 46 = .ok (.iinc 2 1, 3) := by decide +kernel
theorem dX11_readYard_49 : decode cX11_readYard 49 = .ok (.goto (-20), 3) := by decide +kernel
theorem dX11_readYard_52 : decode cX11_readYard 52 = .ok (.iconst 1, 1) := by decide +kernel
theorem dX11_readYard_53 : decode cX11_readYard 53 = .ok (.istore_n 2, 1) := by decide +kernel
theorem dX11_readYard_54 : decode cX11_readYard 54 = .ok (.iload_n 2, 1) := by decide +kernel
theorem dX11_readYard_55 : decode cX11_readYard 55 = .ok (.ifCond .eq 154, 3) := by decide +kernel
theorem dX11_readYard_58 : decode cX11_readYard 58 = .ok (.aload_n 0, 1) := by decide +kernel
theorem dX11_readYard_59 : decode cX11_readYard 59 = .ok (.getfield 110, 3) := by decide +kernel
theorem dX11_readYard_62 : decode cX11_readYard 62 = .ok (.iconst (-1), 1) := by decide +kernel
theorem dX11_readYard_63 : decode cX11_readYard 63 = .ok (.if_icmp .ne 146, 3) := by decide +kernel
theorem dX11_readYard_66 : decode cX11_readYard 66 = .ok (.aload_n 0, 1) := by decide +kernel
theorem dX11_readYard_67 : decode cX11_readYard 67 = .ok (.invokevirtual 122, 3) := by decide +kernel
theorem dX11_readYard_70 : decode cX11_readYard 70 = .ok (.istore_n 3, 1) := by decide +kernel
theorem dX11_readYard_71 : decode cX11_readYard 71 = .ok (.iload_n 3, 1) := by decide +kernel
theorem dX11_readYard_72 : decode cX11_readYard 72 = .ok (.bipush 115, 2) := by decide +kernel
theorem dX11_readYard_74 : decode cX11_readYard 74 = .ok (.if_icmp .ne 7, 3) := by decide +kernel
theorem dX11_readYard_77 : decode cX11_readYard 77 = .ok (.iload_n 1, 1) := by decide +kernel
theorem dX11_readYard_78 : decode cX11_readYard 78 = .ok (.ifCond .eq 47, 3) := by decide +kernel
theorem dX11_readYard_81 : decode cX11_readYard 81 = .ok (.iload_n 3, 1) := by decide +kernel
theorem dX11_readYard_82 : decode cX11_readYard 82 = .ok (.bipush 98, 2) := by decide +kernel
theorem dX11_readYard_84 : decode cX11_readYard 84 = .ok (.if_icmp .ne 11, 3) := by decide +kernel
theorem dX11_readYard_87 : decode cX11_readYard 87 = .ok (.aload_n 0, 1) := by decide +kernel
theorem dX11_readYard_88 : decode cX11_readYard 88 = .ok (.getfield 236, 3) := by decide +kernel
theorem dX11_readYard_91 : decode cX11_readYard 91 = .ok (.iconst 5, 1) := by decide +kernel
theorem dX11_readYard_92 : decode cX11_readYard 92 = .ok (.if_icmp .lt 33, 3) := by decide +kernel
theorem dX11_readYard_95 : decode cX11_readYard 95 = .ok (.iload_n 3, 1) := by decide +kernel
theorem dX11_readYard_96 : decode cX11_readYard 96 = .ok (.bipush 109, 2) := by decide +kernel
theorem dX11_readYard_98 : decode cX11_readYard 98 = .ok (.if_icmp .ne 12, 3) := by decide +kernel
theorem dX11_readYard_101 : decode cX11_readYard 101 = .ok (.aload_n 0, 1) := by decide +kernel
theorem dX11_readYard_102 : decode cX11_readYard 102 = .ok (.getfield 239, 3) := by decide +kernel
theorem dX11_readYard_105 : decode cX11_readYard 105 = .ok (.bipush 6, 2) := by decide +kernel
theorem dX11_readYard_107 : decode cX11_readYard 107 = .ok (.if_icmp .lt 18, 3) := by decide +kernel
theorem dX11_readYard_110 : decode cX11_readYard 110 = .ok (.iload_n 3, 1) := by decide +kernel
theorem dX11_readYard_111 : decode cX11_readYard 111 = .ok (.bipush 102, 2) := by decide +kernel
theorem dX11_readYard_113 : decode cX11_readYard 113 = .ok (.if_icmp .ne 16, 3) := by decide +kernel
theorem dX11_readYard_116 : decode cX11_readYard 116 = .ok (.aload_n 0, 1) := by decide +kernel
theorem dX11_readYard_117 : decode cX11_readYard 117 = .ok (.getfield 242, 3) := by decide +kernel
theorem dX11_readYard_120 : decode cX11_readYard 120 = .ok (.bipush 6, 2) := by decide +kernel
theorem dX11_readYard_122 : decode cX11_readYard 122 = .ok (.if_icmp .ge 7, 3) := by decide +kernel
theorem dX11_readYard_125 : decode cX11_readYard 125 = .ok (.iconst 1, 1) := by decide +kernel
theorem dX11_readYard_126 : decode cX11_readYard 126 = .ok (.goto 4, 3) := by decide +kernel
theorem dX11_readYard_129 : decode cX11_readYard 129 = .ok (.iconst 0, 1) := by decide +kernel
theorem dX11_readYard_130 : decode cX11_readYard 130 = .ok (.istore 4, 2) := by decide +kernel
theorem dX11_readYard_132 : decode cX11_readYard 132 = .ok (.iload 4, 2) := by decide +kernel
theorem dX11_readYard_134 : decode cX11_readYard 134 = .ok (.ifCond .eq 27, 3) := by decide +kernel
theorem dX11_readYard_137 : decode cX11_readYard 137 = .ok (.iload_n 1, 1) := by decide +kernel
theorem dX11_readYard_138 : decode cX11_readYard 138 = .ok (.ifCond .ne 9, 3) := by decide +kernel
theorem dX11_readYard_141 : decode cX11_readYard 141 = .ok (.iload_n 3, 1) := by decide +kernel
theorem dX11_readYard_142 : decode cX11_readYard 142 = .ok (.bipush 115, 2) := by decide +kernel
theorem dX11_readYard_144 : decode cX11_readYard 144 = .ok (.if_icmp .ne 7, 3) := by decide +kernel
theorem dX11_readYard_147 : decode cX11_readYard 147 = .ok (.iconst 1, 1) := by decide +kernel
theorem dX11_readYard_148 : decode cX11_readYard 148 = .ok (.goto 4, 3) := by decide +kernel
theorem dX11_readYard_151 : decode cX11_readYard 151 = .ok (.iconst 0, 1) := by decide +kernel
theorem dX11_readYard_152 : decode cX11_readYard 152 = .ok (.istore_n 1, 1) := by decide +kernel
theorem dX11_readYard_153 : decode cX11_readYard 153 = .ok (.aload_n 0, 1) := by decide +kernel
theorem dX11_readYard_154 : decode cX11_readYard 154 = .ok (.iload_n 3, 1) := by decide +kernel
theorem dX11_readYard_155 : decode cX11_readYard 155 = .ok (.invokevirtual 245, 3) := by decide +kernel
theorem dX11_readYard_158 : decode cX11_readYard 158 = .ok (.goto 7, 3) := by decide +kernel
theorem dX11_readYard_161 : decode cX11_readYard 161 = .ok (.aload_n 0, 1) := by decide +kernel
theorem dX11_readYard_162 : decode cX11_readYard 162 = .ok (.invokevirtual 119, 3) := by decide +kernel
theorem dX11_readYard_165 : decode cX11_readYard 165 = .ok (.aload_n 0, 1) := by decide +kernel
theorem dX11_readYard_166 : decode cX11_readYard 166 = .ok (.getfield 110, 3) := by decide +kernel
theorem dX11_readYard_169 : decode cX11_readYard 169 = .ok (.iconst (-1), 1) := by decide +kernel
theorem dX11_readYard_170 : decode cX11_readYard 170 = .ok (.if_icmp .ne 16, 3) := by decide +kernel
theorem dX11_readYard_173 : decode cX11_readYard 173 = .ok (.aload_n 0, 1) := by decide +kernel
theorem dX11_readYard_174 : decode cX11_readYard 174 = .ok (.invokevirtual 122, 3) := by decide +kernel
theorem dX11_readYard_177 : decode cX11_readYard 177 = .ok (.bipush 59, 2) := by decide +kernel
theorem dX11_readYard_179 : decode cX11_readYard 179 = .ok (.if_icmp .ne 7, 3) := by decide +kernel
theorem dX11_readYard_182 : decode cX11_readYard 182 = .ok (.iconst 1, 1) := by decide +kernel
theorem dX11_readYard_183 : decode cX11_readYard 183 = .ok (.goto 4, 3) := by decide +kernel
theorem dX11_readYard_186 : decode cX11_readYard 186 = .ok (.iconst 0, 1) := by decide +kernel
theorem dX11_readYard_187 : decode cX11_readYard 187 = .ok (.istore_n 2, 1) := by decide +kernel
theorem dX11_readYard_188 : decode cX11_readYard 188 = .ok (.aload_n 0, 1) := by decide +kernel
theorem dX11_readYard_189 : decode cX11_readYard 189 = .ok (.dup, 1) := by decide +kernel
theorem dX11_readYard_190 : decode cX11_readYard 190 = .ok (.getfield 103, 3) := by decide +kernel
theorem dX11_readYard_193 : decode cX11_readYard 193 = .ok (.iload_n 2, 1) := by decide +kernel
theorem dX11_readYard_194 : decode cX11_readYard 194 = .ok (.ifCond .eq 7, 3) := by decide +kernel
theorem dX11_readYard_197 : decode cX11_readYard 197 = .ok (.iconst 1, 1) := by decide +kernel
theorem dX11_readYard_198 : decode cX11_readYard 198 = .ok (.goto 4, 3) := by decide +kernel
theorem dX11_readYard_201 : decode cX11_readYard 201 = .ok (.iconst 0, 1) := by decide +kernel
theorem dX11_readYard_202 : decode cX11_readYard 202 = .ok (.iadd, 1) := by decide +kernel
theorem dX11_readYard_203 : decode cX11_readYard 203 = .ok (.putfield 103, 3) := by decide +kernel
theorem dX11_readYard_206 : decode cX11_readYard 206 = .ok (.goto (-152), 3) := by decide +kernel
theorem dX11_readYard_209 : decode cX11_readYard 209 = .ok (.aload_n 0, 1) := by decide +kernel
theorem dX11_readYard_210 : decode cX11_readYard 210 = .ok (.getfield 110, 3) := by decide +kernel
theorem dX11_readYard_213 : decode cX11_readYard 213 = .ok (.iconst (-1), 1) := by decide +kernel
theorem dX11_readYard_214 : decode cX11_readYard 214 = .ok (.if_icmp .ne 22, 3) := by decide +kernel
theorem dX11_readYard_217 : decode cX11_readYard 217 = .ok (.aload_n 0, 1) := by decide +kernel
theorem dX11_readYard_218 : decode cX11_readYard 218 = .ok (.invokevirtual 122, 3) := by decide +kernel
theorem dX11_readYard_221 : decode cX11_readYard 221 = .ok (.iconst (-1), 1) := by decide +kernel
theorem dX11_readYard_222 : decode cX11_readYard 222 = .ok (.if_icmp .ne 10, 3) := by decide +kernel
theorem dX11_readYard_225 : decode cX11_readYard 225 = .ok (.aload_n 0, 1) := by decide +kernel
theorem dX11_readYard_226 : decode cX11_readYard 226 = .ok (.invokevirtual 248, 3) := by decide +kernel
theorem dX11_readYard_229 : decode cX11_readYard 229 = .ok (.ifCond .ne 7, 3) := by decide +kernel
theorem dX11_readYard_232 : decode cX11_readYard 232 = .ok (.aload_n 0, 1) := by decide +kernel
theorem dX11_readYard_233 : decode cX11_readYard 233 = .ok (.invokevirtual 119, 3) := by decide +kernel
theorem dX11_readYard_236 : decode cX11_readYard 236 = .ok (.aload_n 0, 1) := by decide +kernel
theorem dX11_readYard_237 : decode cX11_readYard 237 = .ok (.getfield 110, 3) := by decide +kernel
theorem dX11_readYard_240 : decode cX11_readYard 240 = .ok (.ireturn, 1) := by decide +kernel
theorem dX11_fault_0 : decode cX11_fault 0 = .ok (.iload_n 1, 1) := by decide +kernel
theorem dX11_fault_1 : decode cX11_fault 1 = .ok (.ifCond .ne 10, 3) := by decide +kernel
theorem dX11_fault_4 : decode cX11_fault 4 = .ok (.aload_n 0, 1) := by decide +kernel
theorem dX11_fault_5 : decode cX11_fault 5 = .ok (.invokevirtual 252, 3) := by decide +kernel
theorem dX11_fault_8 : decode cX11_fault 8 = .ok (.goto 18, 3) := by decide +kernel
theorem dX11_fault_11 : decode cX11_fault 11 = .ok (.iload_n 1, 1) := by decide +kernel
theorem dX11_fault_12 : decode cX11_fault 12 = .ok (.iconst 1, 1) := by decide +kernel
theorem dX11_fault_13 : decode cX11_fault 13 = .ok (.if_icmp .ne 11, 3) := by decide +kernel
theorem dX11_fault_16 : decode cX11_fault 16 = .ok (.aload_n 0, 1) := by decide +kernel
theorem dX11_fault_17 : decode cX11_fault 17 = .ok (.iconst 4, 1) := by decide +kernel
theorem dX11_fault_18 : decode cX11_fault 18 = .ok (.invokevirtual 255, 3) := by decide +kernel
theorem dX11_fault_21 : decode cX11_fault 21 = .ok (.goto 5, 3) := by decide +kernel
theorem dX11_fault_24 : decode cX11_fault 24 = .ok (.bipush (-2), 2) := by decide +kernel
theorem dX11_fault_26 : decode cX11_fault 26 = .ok (.ireturn, 1) := by decide +kernel
theorem dX11_takeYard_0 : decode cX11_takeYard 0 = .ok (.aload_n 0, 1) := by decide +kernel
theorem dX11_takeYard_1 : decode cX11_takeYard 1 = .ok (.aload_n 0, 1) := by decide +kernel
theorem dX11_takeYard_2 : decode cX11_takeYard 2 = .ok (.getfield 236, 3) := by decide +kernel
theorem dX11_takeYard_5 : decode cX11_takeYard 5 = .ok (.putfield 258, 3) := by decide +kernel
theorem dX11_takeYard_8 : decode cX11_takeYard 8 = .ok (.aload_n 0, 1) := by decide +kernel
theorem dX11_takeYard_9 : decode cX11_takeYard 9 = .ok (.aload_n 0, 1) := by decide +kernel
theorem dX11_takeYard_10 : decode cX11_takeYard 10 = .ok (.getfield 239, 3) := by decide +kernel
theorem dX11_takeYard_13 : decode cX11_takeYard 13 = .ok (.putfield 261, 3) := by decide +kernel
theorem dX11_takeYard_16 : decode cX11_takeYard 16 = .ok (.aload_n 0, 1) := by decide +kernel
theorem dX11_takeYard_17 : decode cX11_takeYard 17 = .ok (.aload_n 0, 1) := by decide +kernel
theorem dX11_takeYard_18 : decode cX11_takeYard 18 = .ok (.getfield 242, 3) := by decide +kernel
theorem dX11_takeYard_21 : decode cX11_takeYard 21 = .ok (.putfield 264, 3) := by decide +kernel
theorem dX11_takeYard_24 : decode cX11_takeYard 24 = .ok (.iconst 0, 1) := by decide +kernel
theorem dX11_takeYard_25 : decode cX11_takeYard 25 = .ok (.istore_n 1, 1) := by decide +kernel
theorem dX11_takeYard_26 : decode cX11_takeYard 26 = .ok (.iload_n 1, 1) := by decide +kernel
theorem dX11_takeYard_27 : decode cX11_takeYard 27 = .ok (.iconst 3, 1) := by decide +kernel
theorem dX11_takeYard_28 : decode cX11_takeYard 28 = .ok (.if_icmp .ge 21, 3) := by decide +kernel
theorem dX11_takeYard_31 : decode cX11_takeYard 31 = .ok (.aload_n 0, 1) := by decide +kernel
theorem dX11_takeYard_32 : decode cX11_takeYard 32 = .ok (.getfield 52, 3) := by decide +kernel
theorem dX11_takeYard_35 : decode cX11_takeYard 35 = .ok (.iload_n 1, 1) := by decide +kernel
theorem dX11_takeYard_36 : decode cX11_takeYard 36 = .ok (.aload_n 0, 1) := by decide +kernel
theorem dX11_takeYard_37 : decode cX11_takeYard 37 = .ok (.getfield 40, 3) := by decide +kernel
theorem dX11_takeYard_40 : decode cX11_takeYard 40 = .ok (.iload_n 1, 1) := by decide +kernel
theorem dX11_takeYard_41 : decode cX11_takeYard 41 = .ok (.iaload, 1) := by decide +kernel
theorem dX11_takeYard_42 : decode cX11_takeYard 42 = .ok (.iastore, 1) := by decide +kernel
theorem dX11_takeYard_43 : decode cX11_takeYard 43 = .ok (.iinc 1 1, 3) := by decide +kernel
theorem dX11_takeYard_46 : decode cX11_takeYard 46 = .ok (.goto (-20), 3) := by decide +kernel
theorem dX11_takeYard_49 : decode cX11_takeYard 49 = .ok (.iconst 0, 1) := by decide +kernel
theorem dX11_takeYard_50 : decode cX11_takeYard 50 = .ok (.istore_n 1, 1) := by decide +kernel
theorem dX11_takeYard_51 : decode cX11_takeYard 51 = .ok (.iload_n 1, 1) := by decide +kernel
theorem dX11_takeYard_52 : decode cX11_takeYard 52 = .ok (.bipush 10, 2) := by decide +kernel
theorem dX11_takeYard_54 : decode cX11_takeYard 54 = .ok (.if_icmp .ge 21, 3) := by decide +kernel
theorem dX11_takeYard_57 : decode cX11_takeYard 57 = .ok (.aload_n 0, 1) := by decide +kernel
theorem dX11_takeYard_58 : decode cX11_takeYard 58 = .ok (.getfield 55, 3) := by decide +kernel
theorem dX11_takeYard_61 : decode cX11_takeYard 61 = .ok (.iload_n 1, 1) := by decide +kernel
theorem dX11_takeYard_62 : decode cX11_takeYard 62 = .ok (.aload_n 0, 1) := by decide +kernel
theorem dX11_takeYard_63 : decode cX11_takeYard 63 = .ok (.getfield 43, 3) := by decide +kernel
theorem dX11_takeYard_66 : decode cX11_takeYard 66 = .ok (.iload_n 1, 1) := by decide +kernel
theorem dX11_takeYard_67 : decode cX11_takeYard 67 = .ok (.iaload, 1) := by decide +kernel
theorem dX11_takeYard_68 : decode cX11_takeYard 68 = .ok (.iastore, 1) := by decide +kernel
theorem dX11_takeYard_69 : decode cX11_takeYard 69 = .ok (.iinc 1 1, 3) := by decide +kernel
theorem dX11_takeYard_72 : decode cX11_takeYard 72 = .ok (.goto (-21), 3) := by decide +kernel
theorem dX11_takeYard_75 : decode cX11_takeYard 75 = .ok (.iconst 0, 1) := by decide +kernel
theorem dX11_takeYard_76 : decode cX11_takeYard 76 = .ok (.istore_n 1, 1) := by decide +kernel
theorem dX11_takeYard_77 : decode cX11_takeYard 77 = .ok (.iload_n 1, 1) := by decide +kernel
theorem dX11_takeYard_78 : decode cX11_takeYard 78 = .ok (.bipush 18, 2) := by decide +kernel
theorem dX11_takeYard_80 : decode cX11_takeYard 80 = .ok (.if_icmp .ge 33, 3) := by decide +kernel
theorem dX11_takeYard_83 : decode cX11_takeYard 83 = .ok (.aload_n 0, 1) := by decide +kernel
theorem dX11_takeYard_84 : decode cX11_takeYard 84 = .ok (.getfield 58, 3) := by decide +kernel
theorem dX11_takeYard_87 : decode cX11_takeYard 87 = .ok (.iload_n 1, 1) := by decide +kernel
theorem dX11_takeYard_88 : decode cX11_takeYard 88 = .ok (.aload_n 0, 1) := by decide +kernel
theorem dX11_takeYard_89 : decode cX11_takeYard 89 = .ok (.getfield 46, 3) := by decide +kernel
theorem dX11_takeYard_92 : decode cX11_takeYard 92 = .ok (.iload_n 1, 1) := by decide +kernel
theorem dX11_takeYard_93 : decode cX11_takeYard 93 = .ok (.iaload, 1) := by decide +kernel
theorem dX11_takeYard_94 : decode cX11_takeYard 94 = .ok (.iastore, 1) := by decide +kernel
theorem dX11_takeYard_95 : decode cX11_takeYard 95 = .ok (.aload_n 0, 1) := by decide +kernel
theorem dX11_takeYard_96 : decode cX11_takeYard 96 = .ok (.getfield 61, 3) := by decide +kernel
theorem dX11_takeYard_99 : decode cX11_takeYard 99 = .ok (.iload_n 1, 1) := by decide +kernel
theorem dX11_takeYard_100 : decode cX11_takeYard 100 = .ok (.aload_n 0, 1) := by decide +kernel
theorem dX11_takeYard_101 : decode cX11_takeYard 101 = .ok (.getfield 49, 3) := by decide +kernel
theorem dX11_takeYard_104 : decode cX11_takeYard 104 = .ok (.iload_n 1, 1) := by decide +kernel
theorem dX11_takeYard_105 : decode cX11_takeYard 105 = .ok (.iaload, 1) := by decide +kernel
theorem dX11_takeYard_106 : decode cX11_takeYard 106 = .ok (.iastore, 1) := by decide +kernel
theorem dX11_takeYard_107 : decode cX11_takeYard 107 = .ok (.iinc 1 1, 3) := by decide +kernel
theorem dX11_takeYard_110 : decode cX11_takeYard 110 = .ok (.goto (-33), 3) := by decide +kernel
theorem dX11_takeYard_113 : decode cX11_takeYard 113 = .ok (.iconst 0, 1) := by decide +kernel
theorem dX11_takeYard_114 : decode cX11_takeYard 114 = .ok (.istore_n 1, 1) := by decide +kernel
theorem dX11_takeYard_115 : decode cX11_takeYard 115 = .ok (.iload_n 1, 1) := by decide +kernel
theorem dX11_takeYard_116 : decode cX11_takeYard 116 = .ok (.sipush 131, 3) := by decide +kernel
theorem dX11_takeYard_119 : decode cX11_takeYard 119 = .ok (.if_icmp .ge 16, 3) := by decide +kernel
theorem dX11_takeYard_122 : decode cX11_takeYard 122 = .ok (.aload_n 0, 1) := by decide +kernel
theorem dX11_takeYard_123 : decode cX11_takeYard 123 = .ok (.getfield 64, 3) := by decide +kernel
theorem dX11_takeYard_126 : decode cX11_takeYard 126 = .ok (.iload_n 1, 1) := by decide +kernel
theorem dX11_takeYard_127 : decode cX11_takeYard 127 = .ok (.iconst 0, 1) := by decide +kernel
theorem dX11_takeYard_128 : decode cX11_takeYard 128 = .ok (.iastore, 1) := by decide +kernel
theorem dX11_takeYard_129 : decode cX11_takeYard 129 = .ok (.iinc 1 1, 3) := by decide +kernel
theorem dX11_takeYard_132 : decode cX11_takeYard 132 = .ok (.goto (-17), 3) := by decide +kernel
theorem dX11_takeYard_135 : decode cX11_takeYard 135 = .ok (.iconst 0, 1) := by decide +kernel
theorem dX11_takeYard_136 : decode cX11_takeYard 136 = .ok (.istore_n 1, 1) := by decide +kernel
theorem dX11_takeYard_137 : decode cX11_takeYard 137 = .ok (.iload_n 1, 1) := by decide +kernel
theorem dX11_takeYard_138 : decode cX11_takeYard 138 = .ok (.aload_n 0, 1) := by decide +kernel
theorem dX11_takeYard_139 : decode cX11_takeYard 139 = .ok (.getfield 261, 3) := by decide +kernel
theorem dX11_takeYard_142 : decode cX11_takeYard 142 = .ok (.if_icmp .ge 23, 3) := by decide +kernel
theorem dX11_takeYard_145 : decode cX11_takeYard 145 = .ok (.aload_n 0, 1) := by decide +kernel
theorem dX11_takeYard_146 : decode cX11_takeYard 146 = .ok (.getfield 64, 3) := by decide +kernel
theorem dX11_takeYard_149 : decode cX11_takeYard 149 = .ok (.iconst 0, 1) := by decide +kernel
theorem dX11_takeYard_150 : decode cX11_takeYard 150 = .ok (.iload_n 1, 1) := by decide +kernel
theorem dX11_takeYard_151 : decode cX11_takeYard 151 = .ok (.iadd, 1) := by decide +kernel
theorem dX11_takeYard_152 : decode cX11_takeYard 152 = .ok (.aload_n 0, 1) := by decide +kernel
theorem dX11_takeYard_153 : decode cX11_takeYard 153 = .ok (.iload_n 1, 1) := by decide +kernel
theorem dX11_takeYard_154 : decode cX11_takeYard 154 = .ok (.iconst 0, 1) := by decide +kernel
theorem dX11_takeYard_155 : decode cX11_takeYard 155 = .ok (.invokevirtual 267, 3) := by decide +kernel
theorem dX11_takeYard_158 : decode cX11_takeYard 158 = .ok (.iastore, 1) := by decide +kernel
theorem dX11_takeYard_159 : decode cX11_takeYard 159 = .ok (.iinc 1 1, 3) := by decide +kernel
theorem dX11_takeYard_162 : decode cX11_takeYard 162 = .ok (.goto (-25), 3) := by decide +kernel
theorem dX11_takeYard_165 : decode cX11_takeYard 165 = .ok (.aload_n 0, 1) := by decide +kernel
theorem dX11_takeYard_166 : decode cX11_takeYard 166 = .ok (.getfield 64, 3) := by decide +kernel
theorem dX11_takeYard_169 : decode cX11_takeYard 169 = .ok (.bipush 8, 2) := by decide +kernel
theorem dX11_takeYard_171 : decode cX11_takeYard 171 = .ok (.aload_n 0, 1) := by decide +kernel
theorem dX11_takeYard_172 : decode cX11_takeYard 172 = .ok (.getfield 52, 3) := by decide +kernel
theorem dX11_takeYard_175 : decode cX11_takeYard 175 = .ok (.iconst 2, 1) := by decide +kernel
theorem dX11_takeYard_176 : decode cX11_takeYard 176 = .ok (.iaload, 1) := by decide +kernel
theorem dX11_takeYard_177 : decode cX11_takeYard 177 = .ok (.iastore, 1) := by decide +kernel
theorem dX11_takeYard_178 : decode cX11_takeYard 178 = .ok (.aload_n 0, 1) := by decide +kernel
theorem dX11_takeYard_179 : decode cX11_takeYard 179 = .ok (.iconst 0, 1) := by decide +kernel
theorem dX11_takeYard_180 : decode cX11_takeYard 180 = .ok (.putfield 270, 3) := by decide +kernel
theorem dX11_takeYard_183 : decode cX11_takeYard 183 = .ok (.aload_n 0, 1) := by decide +kernel
theorem dX11_takeYard_184 : decode cX11_takeYard 184 = .ok (.iconst 0, 1) := by decide +kernel
theorem dX11_takeYard_185 : decode cX11_takeYard 185 = .ok (.putfield 273, 3) := by decide +kernel
theorem dX11_takeYard_188 : decode cX11_takeYard 188 = .ok (.aload_n 0, 1) := by decide +kernel
theorem dX11_takeYard_189 : decode cX11_takeYard 189 = .ok (.iconst 0, 1) := by decide +kernel
theorem dX11_takeYard_190 : decode cX11_takeYard 190 = .ok (.putfield 276, 3) := by decide +kernel
theorem dX11_takeYard_193 : decode cX11_takeYard 193 = .ok (.aload_n 0, 1) := by decide +kernel
theorem dX11_takeYard_194 : decode cX11_takeYard 194 = .ok (.getfield 261, 3) := by decide +kernel
theorem dX11_takeYard_197 : decode cX11_takeYard 197 = .ok (.ireturn, 1) := by decide +kernel
theorem dX11_text_0 : decode cX11_text 0 = .ok (.iload_n 1, 1) := by decide +kernel
theorem dX11_text_1 : decode cX11_text 1 = .ok (.ifCond .ne 21, 3) := by decide +kernel
theorem dX11_text_4 : decode cX11_text 4 = .ok (.aload_n 0, 1) := by decide +kernel
theorem dX11_text_5 : decode cX11_text 5 = .ok (.invokevirtual 252, 3) := by decide +kernel
theorem dX11_text_8 : decode cX11_text 8 = .ok (.iconst (-1), 1) := by decide +kernel
theorem dX11_text_9 : decode cX11_text 9 = .ok (.if_icmp .ne 13, 3) := by decide +kernel
theorem dX11_text_12 : decode cX11_text 12 = .ok (.aload_n 0, 1) := by decide +kernel
theorem dX11_text_13 : decode cX11_text 13 = .ok (.iconst 0, 1) := by decide +kernel
theorem dX11_text_14 : decode cX11_text 14 = .ok (.putfield 100, 3) := by decide +kernel
theorem dX11_text_17 : decode cX11_text 17 = .ok (.aload_n 0, 1) := by decide +kernel
theorem dX11_text_18 : decode cX11_text 18 = .ok (.invokevirtual 280, 3) := by decide +kernel
theorem dX11_text_21 : decode cX11_text 21 = .ok (.ireturn, 1) := by decide +kernel
theorem dX11_text_22 : decode cX11_text 22 = .ok (.iload_n 1, 1) := by decide +kernel
theorem dX11_text_23 : decode cX11_text 23 = .ok (.iconst 1, 1) := by decide +kernel
theorem dX11_text_24 : decode cX11_text 24 = .ok (.if_icmp .ne 45, 3) := by decide +kernel
theorem dX11_text_27 : decode cX11_text 27 = .ok (.aload_n 0, 1) := by decide +kernel
theorem dX11_text_28 : decode cX11_text 28 = .ok (.getfield 283, 3) := by decide +kernel
theorem dX11_text_31 : decode cX11_text 31 = .ok (.iconst 4, 1) := by decide +kernel
theorem dX11_text_32 : decode cX11_text 32 = .ok (.if_icmp .ge 37, 3) := by decide +kernel
theorem dX11_text_35 : decode cX11_text 35 = .ok (.aload_n 0, 1) := by decide +kernel
theorem dX11_text_36 : decode cX11_text 36 = .ok (.aload_n 0, 1) := by decide +kernel
theorem dX11_text_37 : decode cX11_text 37 = .ok (.getfield 283, 3) := by decide +kernel
theorem dX11_text_40 : decode cX11_text 40 = .ok (.invokevirtual 255, 3) := by decide +kernel
theorem dX11_text_43 : decode cX11_text 43 = .ok (.iconst (-1), 1) := by decide +kernel
theorem dX11_text_44 : decode cX11_text 44 = .ok (.if_icmp .ne 25, 3) := by decide +kernel
theorem dX11_text_47 : decode cX11_text 47 = .ok (.aload_n 0, 1) := by decide +kernel
theorem dX11_text_48 : decode cX11_text 48 = .ok (.iconst 0, 1) := by decide +kernel
theorem dX11_text_49 : decode cX11_text 49 = .ok (.putfield 100, 3) := by decide +kernel
theorem dX11_text_52 : decode cX11_text 52 = .ok (.aload_n 0, 1) := by decide +kernel
theorem dX11_text_53 : decode cX11_text 53 = .ok (.dup, 1) := by decide +kernel
theorem dX11_text_54 : decode cX11_text 54 = .ok (.getfield 283, 3) := by decide +kernel
theorem dX11_text_57 : decode cX11_text 57 = .ok (.iconst 1, 1) := by decide +kernel
theorem dX11_text_58 : decode cX11_text 58 = .ok (.iadd, 1) := by decide +kernel
theorem dX11_text_59 : decode cX11_text 59 = .ok (.putfield 283, 3) := by decide +kernel
theorem dX11_text_62 : decode cX11_text 62 = .ok (.aload_n 0, 1) := by decide +kernel
theorem dX11_text_63 : decode cX11_text 63 = .ok (.getfield 283, 3) := by decide +kernel
theorem dX11_text_66 : decode cX11_text 66 = .ok (.iconst 1, 1) := by decide +kernel
theorem dX11_text_67 : decode cX11_text 67 = .ok (.isub, 1) := by decide +kernel
theorem dX11_text_68 : decode cX11_text 68 = .ok (.ireturn, 1) := by decide +kernel
theorem dX11_text_69 : decode cX11_text 69 = .ok (.iconst (-1), 1) := by decide +kernel
theorem dX11_text_70 : decode cX11_text 70 = .ok (.ireturn, 1) := by decide +kernel
theorem dX11_of_0 : decode cX11_of 0 = .ok (.aload_n 0, 1) := by decide +kernel
theorem dX11_of_1 : decode cX11_of 1 = .ok (.getfield 58, 3) := by decide +kernel
theorem dX11_of_4 : decode cX11_of 4 = .ok (.iconst 3, 1) := by decide +kernel
theorem dX11_of_5 : decode cX11_of 5 = .ok (.iload_n 1, 1) := by decide +kernel
theorem dX11_of_6 : decode cX11_of 6 = .ok (.imul, 1) := by decide +kernel
theorem dX11_of_7 : decode cX11_of 7 = .ok (.iload_n 2, 1) := by decide +kernel
theorem dX11_of_8 : decode cX11_of 8 = .ok (.iadd, 1) := by decide +kernel
theorem dX11_of_9 : decode cX11_of 9 = .ok (.iaload, 1) := by decide +kernel
theorem dX11_of_10 : decode cX11_of 10 = .ok (.ireturn, 1) := by decide +kernel
theorem dX11_ofFarm_0 : decode cX11_ofFarm 0 = .ok (.aload_n 0, 1) := by decide +kernel
theorem dX11_ofFarm_1 : decode cX11_ofFarm 1 = .ok (.getfield 61, 3) := by decide +kernel
theorem dX11_ofFarm_4 : decode cX11_ofFarm 4 = .ok (.iconst 3, 1) := by decide +kernel
theorem dX11_ofFarm_5 : decode cX11_ofFarm 5 = .ok (.iload_n 1, 1) := by decide +kernel
theorem dX11_ofFarm_6 : decode cX11_ofFarm 6 = .ok (.imul, 1) := by decide +kernel
theorem dX11_ofFarm_7 : decode cX11_ofFarm 7 = .ok (.iload_n 2, 1) := by decide +kernel
theorem dX11_ofFarm_8 : decode cX11_ofFarm 8 = .ok (.iadd, 1) := by decide +kernel
theorem dX11_ofFarm_9 : decode cX11_ofFarm 9 = .ok (.iaload, 1) := by decide +kernel
theorem dX11_ofFarm_10 : decode cX11_ofFarm 10 = .ok (.ireturn, 1) := by decide +kernel
theorem dX11_isBoy_0 : decode cX11_isBoy 0 = .ok (.iload_n 1, 1) := by decide +kernel
theorem dX11_isBoy_1 : decode cX11_isBoy 1 = .ok (.iconst 0, 1) := by decide +kernel
theorem dX11_isBoy_2 : decode cX11_isBoy 2 = .ok (.aload_n 0, 1) := by decide +kernel
theorem dX11_isBoy_3 : decode cX11_isBoy 3 = .ok (.getfield 258, 3) := by decide +kernel
theorem dX11_isBoy_6 : decode cX11_isBoy 6 = .ok (.iconst 1, 1) := by decide +kernel
theorem dX11_isBoy_7 : decode cX11_isBoy 7 = .ok (.isub, 1) := by decide +kernel
theorem dX11_isBoy_8 : decode cX11_isBoy 8 = .ok (.invokestatic 208, 3) := by decide +kernel
theorem dX11_isBoy_11 : decode cX11_isBoy 11 = .ok (.ireturn, 1) := by decide +kernel
theorem dX11_isMarble_0 : decode cX11_isMarble 0 = .ok (.iload_n 1, 1) := by decide +kernel
theorem dX11_isMarble_1 : decode cX11_isMarble 1 = .ok (.iconst 0, 1) := by decide +kernel
theorem dX11_isMarble_2 : decode cX11_isMarble 2 = .ok (.aload_n 0, 1) := by decide +kernel
theorem dX11_isMarble_3 : decode cX11_isMarble 3 = .ok (.getfield 261, 3) := by decide +kernel
theorem dX11_isMarble_6 : decode cX11_isMarble 6 = .ok (.iconst 1, 1) := by decide +kernel
theorem dX11_isMarble_7 : decode cX11_isMarble 7 = .ok (.isub, 1) := by decide +kernel
theorem dX11_isMarble_8 : decode cX11_isMarble 8 = .ok (.invokestatic 208, 3) := by decide +kernel
theorem dX11_isMarble_11 : decode cX11_isMarble 11 = .ok (.ireturn, 1) := by decide +kernel
theorem dX11_isPlace_0 : decode cX11_isPlace 0 = .ok (.iload_n 0, 1) := by decide +kernel
theorem dX11_isPlace_1 : decode cX11_isPlace 1 = .ok (.iconst 0, 1) := by decide +kernel
theorem dX11_isPlace_2 : decode cX11_isPlace 2 = .ok (.bipush 9, 2) := by decide +kernel
theorem dX11_isPlace_4 : decode cX11_isPlace 4 = .ok (.invokestatic 208, 3) := by decide +kernel
theorem dX11_isPlace_7 : decode cX11_isPlace 7 = .ok (.ireturn, 1) := by decide +kernel
theorem dX11_isKind_0 : decode cX11_isKind 0 = .ok (.iload_n 0, 1) := by decide +kernel
theorem dX11_isKind_1 : decode cX11_isKind 1 = .ok (.iconst 0, 1) := by decide +kernel
theorem dX11_isKind_2 : decode cX11_isKind 2 = .ok (.iconst 5, 1) := by decide +kernel
theorem dX11_isKind_3 : decode cX11_isKind 3 = .ok (.invokestatic 208, 3) := by decide +kernel
theorem dX11_isKind_6 : decode cX11_isKind 6 = .ok (.ireturn, 1) := by decide +kernel
theorem dX11_isPower_0 : decode cX11_isPower 0 = .ok (.iload_n 0, 1) := by decide +kernel
theorem dX11_isPower_1 : decode cX11_isPower 1 = .ok (.iconst 1, 1) := by decide +kernel
theorem dX11_isPower_2 : decode cX11_isPower 2 = .ok (.bipush 9, 2) := by decide +kernel
theorem dX11_isPower_4 : decode cX11_isPower 4 = .ok (.invokestatic 208, 3) := by decide +kernel
theorem dX11_isPower_7 : decode cX11_isPower 7 = .ok (.ireturn, 1) := by decide +kernel
theorem dX11_handsOf_0 : decode cX11_handsOf 0 = .ok (.iconst 0, 1) := by decide +kernel
theorem dX11_handsOf_1 : decode cX11_handsOf 1 = .ok (.istore_n 2, 1) := by decide +kernel
theorem dX11_handsOf_2 : decode cX11_handsOf 2 = .ok (.iconst 0, 1) := by decide +kernel
theorem dX11_handsOf_3 : decode cX11_handsOf 3 = .ok (.istore_n 3, 1) := by decide +kernel
theorem dX11_handsOf_4 : decode cX11_handsOf 4 = .ok (.iload_n 3, 1) := by decide +kernel
theorem dX11_handsOf_5 : decode cX11_handsOf 5 = .ok (.aload_n 0, 1) := by decide +kernel
theorem dX11_handsOf_6 : decode cX11_handsOf 6 = .ok (.getfield 261, 3) := by decide +kernel
theorem dX11_handsOf_9 : decode cX11_handsOf 9 = .ok (.if_icmp .ge 31, 3) := by decide +kernel
theorem dX11_handsOf_12 : decode cX11_handsOf 12 = .ok (.iload_n 2, 1) := by decide +kernel
theorem dX11_handsOf_13 : decode cX11_handsOf 13 = .ok (.aload_n 0, 1) := by decide +kernel
theorem dX11_handsOf_14 : decode cX11_handsOf 14 = .ok (.getfield 64, 3) := by decide +kernel
theorem dX11_handsOf_17 : decode cX11_handsOf 17 = .ok (.iconst 0, 1) := by decide +kernel
theorem dX11_handsOf_18 : decode cX11_handsOf 18 = .ok (.iload_n 3, 1) := by decide +kernel
theorem dX11_handsOf_19 : decode cX11_handsOf 19 = .ok (.iadd, 1) := by decide +kernel
theorem dX11_handsOf_20 : decode cX11_handsOf 20 = .ok (.iaload, 1) := by decide +kernel
theorem dX11_handsOf_21 : decode cX11_handsOf 21 = .ok (.iload_n 1, 1) := by decide +kernel
theorem dX11_handsOf_22 : decode cX11_handsOf 22 = .ok (.if_icmp .ne 9, 3) := by decide +kernel
theorem dX11_handsOf_25 : decode cX11_handsOf 25 = .ok (.iconst 1, 1) := by decide +kernel
theorem dX11_handsOf_26 : decode cX11_handsOf 26 = .ok (.iload_n 3, 1) := by decide +kernel
theorem dX11_handsOf_27 : decode cX11_handsOf 27 = .ok (.ishl, 1) := by decide +kernel
theorem dX11_handsOf_28 : decode cX11_handsOf 28 = .ok (.goto 4, 3) := by decide +kernel
theorem dX11_handsOf_31 : decode cX11_handsOf 31 = .ok (.iconst 0, 1) := by decide +kernel
theorem dX11_handsOf_32 : decode cX11_handsOf 32 = .ok (.ior, 1) := by decide +kernel
theorem dX11_handsOf_33 : decode cX11_handsOf 33 = .ok (.istore_n 2, 1) := by decide +kernel
theorem dX11_handsOf_34 : decode cX11_handsOf 34 = .ok (.iinc 3 1, 3) := by decide +kernel
theorem dX11_handsOf_37 : decode cX11_handsOf 37 = .ok (.goto (-33), 3) := by decide +kernel
theorem dX11_handsOf_40 : decode cX11_handsOf 40 = .ok (.iload_n 2, 1) := by decide +kernel
theorem dX11_handsOf_41 : decode cX11_handsOf 41 = .ok (.ireturn, 1) := by decide +kernel
theorem dX11_isLoose_0 : decode cX11_isLoose 0 = .ok (.aload_n 0, 1) := by decide +kernel
theorem dX11_isLoose_1 : decode cX11_isLoose 1 = .ok (.getfield 64, 3) := by decide +kernel
theorem dX11_isLoose_4 : decode cX11_isLoose 4 = .ok (.iconst 0, 1) := by decide +kernel
theorem dX11_isLoose_5 : decode cX11_isLoose 5 = .ok (.iload_n 1, 1) := by decide +kernel
theorem dX11_isLoose_6 : decode cX11_isLoose 6 = .ok (.iadd, 1) := by decide +kernel
theorem dX11_isLoose_7 : decode cX11_isLoose 7 = .ok (.iaload, 1) := by decide +kernel
theorem dX11_isLoose_8 : decode cX11_isLoose 8 = .ok (.iconst (-1), 1) := by decide +kernel
theorem dX11_isLoose_9 : decode cX11_isLoose 9 = .ok (.if_icmp .eq 21, 3) := by decide +kernel
theorem dX11_isLoose_12 : decode cX11_isLoose 12 = .ok (.aload_n 0, 1) := by decide +kernel
theorem dX11_isLoose_13 : decode cX11_isLoose 13 = .ok (.getfield 64, 3) := by decide +kernel
theorem dX11_isLoose_16 : decode cX11_isLoose 16 = .ok (.bipush 7, 2) := by decide +kernel
theorem dX11_isLoose_18 : decode cX11_isLoose 18 = .ok (.iaload, 1) := by decide +kernel
theorem dX11_isLoose_19 : decode cX11_isLoose 19 = .ok (.iload_n 1, 1) := by decide +kernel
theorem dX11_isLoose_20 : decode cX11_isLoose 20 = .ok (.invokestatic 219, 3) := by decide +kernel
theorem dX11_isLoose_23 : decode cX11_isLoose 23 = .ok (.ifCond .ne 7, 3) := by decide +kernel
theorem dX11_isLoose_26 : decode cX11_isLoose 26 = .ok (.iconst 1, 1) := by decide +kernel
theorem dX11_isLoose_27 : decode cX11_isLoose 27 = .ok (.goto 4, 3) := by decide +kernel
theorem dX11_isLoose_30 : decode cX11_isLoose 30 = .ok (.iconst 0, 1) := by decide +kernel
theorem dX11_isLoose_31 : decode cX11_isLoose 31 = .ok (.ireturn, 1) := by decide +kernel
theorem dX11_landsAt_0 : decode cX11_landsAt 0 = .ok (.iconst 2, 1) := by decide +kernel
theorem dX11_landsAt_1 : decode cX11_landsAt 1 = .ok (.iload_n 3, 1) := by decide +kernel
theorem dX11_landsAt_2 : decode cX11_landsAt 2 = .ok (.imul, 1) := by decide +kernel
theorem dX11_landsAt_3 : decode cX11_landsAt 3 = .ok (.aload_n 0, 1) := by decide +kernel
theorem dX11_landsAt_4 : decode cX11_landsAt 4 = .ok (.getfield 55, 3) := by decide +kernel
theorem dX11_landsAt_7 : decode cX11_landsAt 7 = .ok (.iconst 2, 1) := by decide +kernel
theorem dX11_landsAt_8 : decode cX11_landsAt 8 = .ok (.iload_n 1, 1) := by decide +kernel
theorem dX11_landsAt_9 : decode cX11_landsAt 9 = .ok (.imul, 1) := by decide +kernel
theorem dX11_landsAt_10 : decode cX11_landsAt 10 = .ok (.iconst 0, 1) := by decide +kernel
theorem dX11_landsAt_11 : decode cX11_landsAt 11 = .ok (.iadd, 1) := by decide +kernel
theorem dX11_landsAt_12 : decode cX11_landsAt 12 = .ok (.iaload, 1) := by decide +kernel
theorem dX11_landsAt_13 : decode cX11_landsAt 13 = .ok (.iconst 2, 1) := by decide +kernel
theorem dX11_landsAt_14 : decode cX11_landsAt 14 = .ok (.idiv, 1) := by decide +kernel
theorem dX11_landsAt_15 : decode cX11_landsAt 15 = .ok (.iadd, 1) := by decide +kernel
theorem dX11_landsAt_16 : decode cX11_landsAt 16 = .ok (.aload_n 0, 1) := by decide +kernel
theorem dX11_landsAt_17 : decode cX11_landsAt 17 = .ok (.iload_n 2, 1) := by decide +kernel
theorem dX11_landsAt_18 : decode cX11_landsAt 18 = .ok (.iconst 2, 1) := by decide +kernel
theorem dX11_landsAt_19 : decode cX11_landsAt 19 = .ok (.invokevirtual 267, 3) := by decide +kernel
theorem dX11_landsAt_22 : decode cX11_landsAt 22 = .ok (.iconst 3, 1) := by decide +kernel
theorem dX11_landsAt_23 : decode cX11_landsAt 23 = .ok (.idiv, 1) := by decide +kernel
theorem dX11_landsAt_24 : decode cX11_landsAt 24 = .ok (.isub, 1) := by decide +kernel
theorem dX11_landsAt_25 : decode cX11_landsAt 25 = .ok (.istore 4, 2) := by decide +kernel
theorem dX11_landsAt_27 : decode cX11_landsAt 27 = .ok (.aload_n 0, 1) := by decide +kernel
theorem dX11_landsAt_28 : decode cX11_landsAt 28 = .ok (.getfield 70, 3) := by decide +kernel
theorem dX11_landsAt_31 : decode cX11_landsAt 31 = .ok (.iconst (-1), 1) := by decide +kernel
theorem dX11_landsAt_32 : decode cX11_landsAt 32 = .ok (.if_icmp .eq 92, 3) := by decide +kernel
theorem dX11_landsAt_35 : decode cX11_landsAt 35 = .ok (.aload_n 0, 1) := by decide +kernel
theorem dX11_landsAt_36 : decode cX11_landsAt 36 = .ok (.getfield 34, 3) := by decide +kernel
theorem dX11_landsAt_39 : decode cX11_landsAt 39 = .ok (.iconst 0, 1) := by decide +kernel
theorem dX11_landsAt_40 : decode cX11_landsAt 40 = .ok (.iload_n 3, 1) := by decide +kernel
theorem dX11_landsAt_41 : decode cX11_landsAt 41 = .ok (.iastore, 1) := by decide +kernel
theorem dX11_landsAt_42 : decode cX11_landsAt 42 = .ok (.aload_n 0, 1) := by decide +kernel
theorem dX11_landsAt_43 : decode cX11_landsAt 43 = .ok (.getfield 34, 3) := by decide +kernel
theorem dX11_landsAt_46 : decode cX11_landsAt 46 = .ok (.iconst 1, 1) := by decide +kernel
theorem dX11_landsAt_47 : decode cX11_landsAt 47 = .ok (.aload_n 0, 1) := by decide +kernel
theorem dX11_landsAt_48 : decode cX11_landsAt 48 = .ok (.getfield 55, 3) := by decide +kernel
theorem dX11_landsAt_51 : decode cX11_landsAt 51 = .ok (.iconst 2, 1) := by decide +kernel
theorem dX11_landsAt_52 : decode cX11_landsAt 52 = .ok (.iload_n 1, 1) := by decide +kernel
theorem dX11_landsAt_53 : decode cX11_landsAt 53 = .ok (.imul, 1) := by decide +kernel
theorem dX11_landsAt_54 : decode cX11_landsAt 54 = .ok (.iconst 0, 1) := by decide +kernel
theorem dX11_landsAt_55 : decode cX11_landsAt 55 = .ok (.iadd, 1) := by decide +kernel
theorem dX11_landsAt_56 : decode cX11_landsAt 56 = .ok (.iaload, 1) := by decide +kernel
theorem dX11_landsAt_57 : decode cX11_landsAt 57 = .ok (.iastore, 1) := by decide +kernel
theorem dX11_landsAt_58 : decode cX11_landsAt 58 = .ok (.aload_n 0, 1) := by decide +kernel
theorem dX11_landsAt_59 : decode cX11_landsAt 59 = .ok (.getfield 34, 3) := by decide +kernel
theorem dX11_landsAt_62 : decode cX11_landsAt 62 = .ok (.iconst 2, 1) := by decide +kernel
theorem dX11_landsAt_63 : decode cX11_landsAt 63 = .ok (.aload_n 0, 1) := by decide +kernel
theorem dX11_landsAt_64 : decode cX11_landsAt 64 = .ok (.iload_n 2, 1) := by decide +kernel
theorem dX11_landsAt_65 : decode cX11_landsAt 65 = .ok (.iconst 2, 1) := by decide +kernel
theorem dX11_landsAt_66 : decode cX11_landsAt 66 = .ok (.invokevirtual 267, 3) := by decide +kernel
theorem dX11_landsAt_69 : decode cX11_landsAt 69 = .ok (.iastore, 1) := by decide +kernel
theorem dX11_landsAt_70 : decode cX11_landsAt 70 = .ok (.aload_n 0, 1) := by decide +kernel
theorem dX11_landsAt_71 : decode cX11_landsAt 71 = .ok (.getfield 34, 3) := by decide +kernel
theorem dX11_landsAt_74 : decode cX11_landsAt 74 = .ok (.iconst 3, 1) := by decide +kernel
theorem dX11_landsAt_75 : decode cX11_landsAt 75 = .ok (.aload_n 0, 1) := by decide +kernel
theorem dX11_landsAt_76 : decode cX11_landsAt 76 = .ok (.getfield 64, 3) := by decide +kernel
theorem dX11_landsAt_79 : decode cX11_landsAt 79 = .ok (.bipush 6, 2) := by decide +kernel
theorem dX11_landsAt_81 : decode cX11_landsAt 81 = .ok (.iaload, 1) := by decide +kernel
theorem dX11_landsAt_82 : decode cX11_landsAt 82 = .ok (.iload_n 2, 1) := by decide +kernel
theorem dX11_landsAt_83 : decode cX11_landsAt 83 = .ok (.ishr, 1) := by decide +kernel
theorem dX11_landsAt_84 : decode cX11_landsAt 84 = .ok (.iconst 1, 1) := by decide +kernel
theorem dX11_landsAt_85 : decode cX11_landsAt 85 = .ok (.iand, 1) := by decide +kernel
theorem dX11_landsAt_86 : decode cX11_landsAt 86 = .ok (.iastore, 1) := by decide +kernel
theorem dX11_landsAt_87 : decode cX11_landsAt 87 = .ok (.aload_n 0, 1) := by decide +kernel
theorem dX11_landsAt_88 : decode cX11_landsAt 88 = .ok (.getfield 34, 3) := by decide +kernel
theorem dX11_landsAt_91 : decode cX11_landsAt 91 = .ok (.iconst 4, 1) := by decide +kernel
theorem dX11_landsAt_92 : decode cX11_landsAt 92 = .ok (.aload_n 0, 1) := by decide +kernel
theorem dX11_landsAt_93 : decode cX11_landsAt 93 = .ok (.iload_n 1, 1) := by decide +kernel
theorem dX11_landsAt_94 : decode cX11_landsAt 94 = .ok (.invokevirtual 286, 3) := by decide +kernel
theorem dX11_landsAt_97 : decode cX11_landsAt 97 = .ok (.invokestatic 289, 3) := by decide +kernel
theorem dX11_landsAt_100 : decode cX11_landsAt 100 = .ok (.iastore, 1) := by decide +kernel
theorem dX11_landsAt_101 : decode cX11_landsAt 101 = .ok (.aload_n 0, 1) := by decide +kernel
theorem dX11_landsAt_102 : decode cX11_landsAt 102 = .ok (.getfield 34, 3) := by decide +kernel
theorem dX11_landsAt_105 : decode cX11_landsAt 105 = .ok (.iconst 5, 1) := by decide +kernel
theorem dX11_landsAt_106 : decode cX11_landsAt 106 = .ok (.aload_n 0, 1) := by decide +kernel
theorem dX11_landsAt_107 : decode cX11_landsAt 107 = .ok (.getfield 64, 3) := by decide +kernel
theorem dX11_landsAt_110 : decode cX11_landsAt 110 = .ok (.bipush 9, 2) := by decide +kernel
theorem dX11_landsAt_112 : decode cX11_landsAt 112 = .ok (.iaload, 1) := by decide +kernel
theorem dX11_landsAt_113 : decode cX11_landsAt 113 = .ok (.iastore, 1) := by decide +kernel
theorem dX11_landsAt_114 : decode cX11_landsAt 114 = .ok (.aload_n 0, 1) := by decide +kernel
theorem dX11_landsAt_115 : decode cX11_landsAt 115 = .ok (.aload_n 0, 1) := by decide +kernel
theorem dX11_landsAt_116 : decode cX11_landsAt 116 = .ok (.getfield 70, 3) := by decide +kernel
theorem dX11_landsAt_119 : decode cX11_landsAt 119 = .ok (.invokevirtual 294, 3) := by decide +kernel
theorem dX11_landsAt_122 : decode cX11_landsAt 122 = .ok (.istore 4, 2) := by decide +kernel
theorem dX11_landsAt_124 : decode cX11_landsAt 124 = .ok (.iconst 0, 1) := by decide +kernel
theorem dX11_landsAt_125 : decode cX11_landsAt 125 = .ok (.bipush 60, 2) := by decide +kernel
theorem dX11_landsAt_127 : decode cX11_landsAt 127 = .ok (.iload 4, 2) := by decide +kernel
theorem dX11_landsAt_129 : decode cX11_landsAt 129 = .ok (.invokestatic 297, 3) := by decide +kernel
theorem dX11_landsAt_132 : decode cX11_landsAt 132 = .ok (.invokestatic 299, 3) := by decide +kernel
theorem dX11_landsAt_135 : decode cX11_landsAt 135 = .ok (.ireturn, 1) := by decide +kernel
theorem dX11_isDrain_0 : decode cX11_isDrain 0 = .ok (.iload_n 1, 1) := by decide +kernel
theorem dX11_isDrain_1 : decode cX11_isDrain 1 = .ok (.aload_n 0, 1) := by decide +kernel
theorem dX11_isDrain_2 : decode cX11_isDrain 2 = .ok (.getfield 52, 3) := by decide +kernel
theorem dX11_isDrain_5 : decode cX11_isDrain 5 = .ok (.iconst 0, 1) := by decide +kernel
theorem dX11_isDrain_6 : decode cX11_isDrain 6 = .ok (.iaload, 1) := by decide +kernel
theorem dX11_isDrain_7 : decode cX11_isDrain 7 = .ok (.aload_n 0, 1) := by decide +kernel
theorem dX11_isDrain_8 : decode cX11_isDrain 8 = .ok (.getfield 52, 3) := by decide +kernel
theorem dX11_isDrain_11 : decode cX11_isDrain 11 = .ok (.iconst 1, 1) := by decide +kernel
theorem dX11_isDrain_12 : decode cX11_isDrain 12 = .ok (.iaload, 1) := by decide +kernel
theorem dX11_isDrain_13 : decode cX11_isDrain 13 = .ok (.iadd, 1) := by decide +kernel
theorem dX11_isDrain_14 : decode cX11_isDrain 14 = .ok (.if_icmp .lt 7, 3) := by decide +kernel
theorem dX11_isDrain_17 : decode cX11_isDrain 17 = .ok (.iconst 1, 1) := by decide +kernel
theorem dX11_isDrain_18 : decode cX11_isDrain 18 = .ok (.goto 4, 3) := by decide +kernel
theorem dX11_isDrain_21 : decode cX11_isDrain 21 = .ok (.iconst 0, 1) := by decide +kernel
theorem dX11_isDrain_22 : decode cX11_isDrain 22 = .ok (.ireturn, 1) := by decide +kernel
theorem dX11_offHole_0 : decode cX11_offHole 0 = .ok (.iload_n 1, 1) := by decide +kernel
theorem dX11_offHole_1 : decode cX11_offHole 1 = .ok (.aload_n 0, 1) := by decide +kernel
theorem dX11_offHole_2 : decode cX11_offHole 2 = .ok (.getfield 52, 3) := by decide +kernel
theorem dX11_offHole_5 : decode cX11_offHole 5 = .ok (.iconst 0, 1) := by decide +kernel
theorem dX11_offHole_6 : decode cX11_offHole 6 = .ok (.iaload, 1) := by decide +kernel
theorem dX11_offHole_7 : decode cX11_offHole 7 = .ok (.isub, 1) := by decide +kernel
theorem dX11_offHole_8 : decode cX11_offHole 8 = .ok (.invokestatic 301, 3) := by decide +kernel
theorem dX11_offHole_11 : decode cX11_offHole 11 = .ok (.ireturn, 1) := by decide +kernel
theorem dX11_winner_0 : decode cX11_winner 0 = .ok (.aload_n 0, 1) := by decide +kernel
theorem dX11_winner_1 : decode cX11_winner 1 = .ok (.iload_n 1, 1) := by decide +kernel
theorem dX11_winner_2 : decode cX11_winner 2 = .ok (.invokevirtual 304, 3) := by decide +kernel
theorem dX11_winner_5 : decode cX11_winner 5 = .ok (.ifCond .ne 24, 3) := by decide +kernel
theorem dX11_winner_8 : decode cX11_winner 8 = .ok (.aload_n 0, 1) := by decide +kernel
theorem dX11_winner_9 : decode cX11_winner 9 = .ok (.iload_n 2, 1) := by decide +kernel
theorem dX11_winner_10 : decode cX11_winner 10 = .ok (.invokevirtual 304, 3) := by decide +kernel
theorem dX11_winner_13 : decode cX11_winner 13 = .ok (.ifCond .ne 16, 3) := by decide +kernel
theorem dX11_winner_16 : decode cX11_winner 16 = .ok (.aload_n 0, 1) := by decide +kernel
theorem dX11_winner_17 : decode cX11_winner 17 = .ok (.iload_n 1, 1) := by decide +kernel
theorem dX11_winner_18 : decode cX11_winner 18 = .ok (.invokevirtual 307, 3) := by decide +kernel
theorem dX11_winner_21 : decode cX11_winner 21 = .ok (.aload_n 0, 1) := by decide +kernel
theorem dX11_winner_22 : decode cX11_winner 22 = .ok (.iload_n 2, 1) := by decide +kernel
theorem dX11_winner_23 : decode cX11_winner 23 = .ok (.invokevirtual 307, 3) := by decide +kernel
theorem dX11_winner_26 : decode cX11_winner 26 = .ok (.if_icmp .ne 5, 3) := by decide +kernel
theorem dX11_winner_29 : decode cX11_winner 29 = .ok (.iconst 0, 1) := by decide +kernel
theorem dX11_winner_30 : decode cX11_winner 30 = .ok (.ireturn, 1) := by decide +kernel
theorem dX11_winner_31 : decode cX11_winner 31 = .ok (.aload_n 0, 1) := by decide +kernel
theorem dX11_winner_32 : decode cX11_winner 32 = .ok (.iload_n 1, 1) := by decide +kernel
theorem dX11_winner_33 : decode cX11_winner 33 = .ok (.invokevirtual 307, 3) := by decide +kernel
theorem dX11_winner_36 : decode cX11_winner 36 = .ok (.aload_n 0, 1) := by decide +kernel
theorem dX11_winner_37 : decode cX11_winner 37 = .ok (.iload_n 2, 1) := by decide +kernel
theorem dX11_winner_38 : decode cX11_winner 38 = .ok (.invokevirtual 307, 3) := by decide +kernel
theorem dX11_winner_41 : decode cX11_winner 41 = .ok (.if_icmp .ge 7, 3) := by decide +kernel
theorem dX11_winner_44 : decode cX11_winner 44 = .ok (.iconst 1, 1) := by decide +kernel
theorem dX11_winner_45 : decode cX11_winner 45 = .ok (.goto 4, 3) := by decide +kernel
theorem dX11_winner_48 : decode cX11_winner 48 = .ok (.iconst 2, 1) := by decide +kernel
theorem dX11_winner_49 : decode cX11_winner 49 = .ok (.ireturn, 1) := by decide +kernel
theorem dX11_worthNow_0 : decode cX11_worthNow 0 = .ok (.iconst 0, 1) := by decide +kernel
theorem dX11_worthNow_1 : decode cX11_worthNow 1 = .ok (.aload_n 0, 1) := by decide +kernel
theorem dX11_worthNow_2 : decode cX11_worthNow 2 = .ok (.iload_n 1, 1) := by decide +kernel
theorem dX11_worthNow_3 : decode cX11_worthNow 3 = .ok (.iconst 2, 1) := by decide +kernel
theorem dX11_worthNow_4 : decode cX11_worthNow 4 = .ok (.invokevirtual 267, 3) := by decide +kernel
theorem dX11_worthNow_7 : decode cX11_worthNow 7 = .ok (.aload_n 0, 1) := by decide +kernel
theorem dX11_worthNow_8 : decode cX11_worthNow 8 = .ok (.getfield 64, 3) := by decide +kernel
theorem dX11_worthNow_11 : decode cX11_worthNow 11 = .ok (.bipush 6, 2) := by decide +kernel
theorem dX11_worthNow_13 : decode cX11_worthNow 13 = .ok (.iaload, 1) := by decide +kernel
theorem dX11_worthNow_14 : decode cX11_worthNow 14 = .ok (.iload_n 1, 1) := by decide +kernel
theorem dX11_worthNow_15 : decode cX11_worthNow 15 = .ok (.invokestatic 219, 3) := by decide +kernel
theorem dX11_worthNow_18 : decode cX11_worthNow 18 = .ok (.ifCond .eq 7, 3) := by decide +kernel
theorem dX11_worthNow_21 : decode cX11_worthNow 21 = .ok (.iconst 2, 1) := by decide +kernel
theorem dX11_worthNow_22 : decode cX11_worthNow 22 = .ok (.goto 4, 3) := by decide +kernel
theorem dX11_worthNow_25 : decode cX11_worthNow 25 = .ok (.iconst 0, 1) := by decide +kernel
theorem dX11_worthNow_26 : decode cX11_worthNow 26 = .ok (.isub, 1) := by decide +kernel
theorem dX11_worthNow_27 : decode cX11_worthNow 27 = .ok (.invokestatic 299, 3) := by decide +kernel
theorem dX11_worthNow_30 : decode cX11_worthNow 30 = .ok (.ireturn, 1) := by decide +kernel
theorem dX11_strengthOf_0 : decode cX11_strengthOf 0 = .ok (.iconst 0, 1) := by decide +kernel
theorem dX11_strengthOf_1 : decode cX11_strengthOf 1 = .ok (.istore_n 3, 1) := by decide +kernel
theorem dX11_strengthOf_2 : decode cX11_strengthOf 2 = .ok (.iconst 0, 1) := by decide +kernel
theorem dX11_strengthOf_3 : decode cX11_strengthOf 3 = .ok (.istore 4, 2) := by decide +kernel
theorem dX11_strengthOf_5 : decode cX11_strengthOf 5 = .ok (.iload 4, 2) := by decide +kernel
theorem dX11_strengthOf_7 : decode cX11_strengthOf 7 = .ok (.aload_n 0, 1) := by decide +kernel
theorem dX11_strengthOf_8 : decode cX11_strengthOf 8 = .ok (.getfield 261, 3) := by decide +kernel
theorem dX11_strengthOf_11 : decode cX11_strengthOf 11 = .ok (.if_icmp .ge 65, 3) := by decide +kernel
theorem dX11_strengthOf_14 : decode cX11_strengthOf 14 = .ok (.aload_n 0, 1) := by decide +kernel
theorem dX11_strengthOf_15 : decode cX11_strengthOf 15 = .ok (.getfield 64, 3) := by decide +kernel
theorem dX11_strengthOf_18 : decode cX11_strengthOf 18 = .ok (.iconst 0, 1) := by decide +kernel
theorem dX11_strengthOf_19 : decode cX11_strengthOf 19 = .ok (.iload 4, 2) := by decide +kernel
theorem dX11_strengthOf_21 : decode cX11_strengthOf 21 = .ok (.iadd, 1) := by decide +kernel
theorem dX11_strengthOf_22 : decode cX11_strengthOf 22 = .ok (.iaload, 1) := by decide +kernel
theorem dX11_strengthOf_23 : decode cX11_strengthOf 23 = .ok (.istore 5, 2) := by decide +kernel
theorem dX11_strengthOf_25 : decode cX11_strengthOf 25 = .ok (.iload_n 3, 1) := by decide +kernel
theorem dX11_strengthOf_26 : decode cX11_strengthOf 26 = .ok (.iload 5, 2) := by decide +kernel
theorem dX11_strengthOf_28 : decode cX11_strengthOf 28 = .ok (.iconst (-1), 1) := by decide +kernel
theorem dX11_strengthOf_29 : decode cX11_strengthOf 29 = .ok (.if_icmp .eq 38, 3) := by decide +kernel
theorem dX11_strengthOf_32 : decode cX11_strengthOf 32 = .ok (.aload_n 0, 1) := by decide +kernel
theorem dX11_strengthOf_33 : decode cX11_strengthOf 33 = .ok (.iload 4, 2) := by decide +kernel
theorem dX11_strengthOf_35 : decode cX11_strengthOf 35 = .ok (.iconst 1, 1) := by decide +kernel
theorem dX11_strengthOf_36 : decode cX11_strengthOf 36 = .ok (.invokevirtual 267, 3) := by decide +kernel
theorem dX11_strengthOf_39 : decode cX11_strengthOf 39 = .ok (.iload_n 2, 1) := by decide +kernel
theorem dX11_strengthOf_40 : decode cX11_strengthOf 40 = .ok (.if_icmp .ne 27, 3) := by decide +kernel
theorem dX11_strengthOf_43 : decode cX11_strengthOf 43 = .ok (.aload_n 0, 1) := by decide +kernel
theorem dX11_strengthOf_44 : decode cX11_strengthOf 44 = .ok (.getfield 55, 3) := by decide +kernel
theorem dX11_strengthOf_47 : decode cX11_strengthOf 47 = .ok (.iconst 2, 1) := by decide +kernel
theorem dX11_strengthOf_48 : decode cX11_strengthOf 48 = .ok (.iload 5, 2) := by decide +kernel
theorem dX11_strengthOf_50 : decode cX11_strengthOf 50 = .ok (.imul, 1) := by decide +kernel
theorem dX11_strengthOf_51 : decode cX11_strengthOf 51 = .ok (.iconst 1, 1) := by decide +kernel
theorem dX11_strengthOf_52 : decode cX11_strengthOf 52 = .ok (.iadd, 1) := by decide +kernel
theorem dX11_strengthOf_53 : decode cX11_strengthOf 53 = .ok (.iaload, 1) := by decide +kernel
theorem dX11_strengthOf_54 : decode cX11_strengthOf 54 = .ok (.iload_n 1, 1) := by decide +kernel
theorem dX11_strengthOf_55 : decode cX11_strengthOf 55 = .ok (.if_icmp .ne 12, 3) := by decide +kernel
theorem dX11_strengthOf_58 : decode cX11_strengthOf 58 = .ok (.aload_n 0, 1) := by decide +kernel
theorem dX11_strengthOf_59 : decode cX11_strengthOf 59 = .ok (.iload 4, 2) := by decide +kernel
theorem dX11_strengthOf_61 : decode cX11_strengthOf 61 = .ok (.invokevirtual 310, 3) := by decide +kernel
theorem dX11_strengthOf_64 : decode cX11_strengthOf 64 = .ok (.goto 4, 3) := by decide +kernel
theorem dX11_strengthOf_67 : decode cX11_strengthOf 67 = .ok (.iconst 0, 1) := by decide +kernel
theorem dX11_strengthOf_68 : decode cX11_strengthOf 68 = .ok (.iadd, 1) := by decide +kernel
theorem dX11_strengthOf_69 : decode cX11_strengthOf 69 = .ok (.istore_n 3, 1) := by decide +kernel
theorem dX11_strengthOf_70 : decode cX11_strengthOf 70 = .ok (.iinc 4 1, 3) := by decide +kernel
theorem dX11_strengthOf_73 : decode cX11_strengthOf 73 = .ok (.goto (-68), 3) := by decide +kernel
theorem dX11_strengthOf_76 : decode cX11_strengthOf 76 = .ok (.iload_n 3, 1) := by decide +kernel
theorem dX11_strengthOf_77 : decode cX11_strengthOf 77 = .ok (.ireturn, 1) := by decide +kernel
theorem dX11_weatherOf_0 : decode cX11_weatherOf 0 = .ok (.iconst (-1), 1) := by decide +kernel
theorem dX11_weatherOf_1 : decode cX11_weatherOf 1 = .ok (.istore_n 2, 1) := by decide +kernel
theorem dX11_weatherOf_2 : decode cX11_weatherOf 2 = .ok (.iconst 0, 1) := by decide +kernel
theorem dX11_weatherOf_3 : decode cX11_weatherOf 3 = .ok (.istore_n 3, 1) := by decide +kernel
theorem dX11_weatherOf_4 : decode cX11_weatherOf 4 = .ok (.iconst 0, 1) := by decide +kernel
theorem dX11_weatherOf_5 : decode cX11_weatherOf 5 = .ok (.istore 4, 2) := by decide +kernel
theorem dX11_weatherOf_7 : decode cX11_weatherOf 7 = .ok (.iload 4, 2) := by decide +kernel
theorem dX11_weatherOf_9 : decode cX11_weatherOf 9 = .ok (.bipush 6, 2) := by decide +kernel
theorem dX11_weatherOf_11 : decode cX11_weatherOf 11 = .ok (.if_icmp .ge 38, 3) := by decide +kernel
theorem dX11_weatherOf_14 : decode cX11_weatherOf 14 = .ok (.aload_n 0, 1) := by decide +kernel
theorem dX11_weatherOf_15 : decode cX11_weatherOf 15 = .ok (.iload_n 1, 1) := by decide +kernel
theorem dX11_weatherOf_16 : decode cX11_weatherOf 16 = .ok (.iload 4, 2) := by decide +kernel
theorem dX11_weatherOf_18 : decode cX11_weatherOf 18 = .ok (.invokevirtual 313, 3) := by decide +kernel
theorem dX11_weatherOf_21 : decode cX11_weatherOf 21 = .ok (.istore 5, 2) := by decide +kernel
theorem dX11_weatherOf_23 : decode cX11_weatherOf 23 = .ok (.iload 5, 2) := by decide +kernel
theorem dX11_weatherOf_25 : decode cX11_weatherOf 25 = .ok (.iload_n 3, 1) := by decide +kernel
theorem dX11_weatherOf_26 : decode cX11_weatherOf 26 = .ok (.if_icmp .le 8, 3) := by decide +kernel
theorem dX11_weatherOf_29 : decode cX11_weatherOf 29 = .ok (.iload 4, 2) := by decide +kernel
theorem dX11_weatherOf_31 : decode cX11_weatherOf 31 = .ok (.goto 4, 3) := by decide +kernel
theorem dX11_weatherOf_34 : decode cX11_weatherOf 34 = .ok (.iload_n 2, 1) := by decide +kernel
theorem dX11_weatherOf_35 : decode cX11_weatherOf 35 = .ok (.istore_n 2, 1) := by decide +kernel
theorem dX11_weatherOf_36 : decode cX11_weatherOf 36 = .ok (.iload_n 3, 1) := by decide +kernel
theorem dX11_weatherOf_37 : decode cX11_weatherOf 37 = .ok (.iload 5, 2) := by decide +kernel
theorem dX11_weatherOf_39 : decode cX11_weatherOf 39 = .ok (.invokestatic 299, 3) := by decide +kernel
theorem dX11_weatherOf_42 : decode cX11_weatherOf 42 = .ok (.istore_n 3, 1) := by decide +kernel
theorem dX11_weatherOf_43 : decode cX11_weatherOf 43 = .ok (.iinc 4 1, 3) := by decide +kernel
theorem dX11_weatherOf_46 : decode cX11_weatherOf 46 = .ok (.goto (-39), 3) := by decide +kernel
theorem dX11_weatherOf_49 : decode cX11_weatherOf 49 = .ok (.iload_n 2, 1) := by decide +kernel
theorem dX11_weatherOf_50 : decode cX11_weatherOf 50 = .ok (.ireturn, 1) := by decide +kernel
theorem dX11_isContent_0 : decode cX11_isContent 0 = .ok (.aload_n 0, 1) := by decide +kernel
theorem dX11_isContent_1 : decode cX11_isContent 1 = .ok (.aload_n 0, 1) := by decide +kernel
theorem dX11_isContent_2 : decode cX11_isContent 2 = .ok (.iload_n 1, 1) := by decide +kernel
theorem dX11_isContent_3 : decode cX11_isContent 3 = .ok (.iconst 0, 1) := by decide +kernel
theorem dX11_isContent_4 : decode cX11_isContent 4 = .ok (.invokevirtual 316, 3) := by decide +kernel
theorem dX11_isContent_7 : decode cX11_isContent 7 = .ok (.invokevirtual 319, 3) := by decide +kernel
theorem dX11_isContent_10 : decode cX11_isContent 10 = .ok (.aload_n 0, 1) := by decide +kernel
theorem dX11_isContent_11 : decode cX11_isContent 11 = .ok (.iload_n 1, 1) := by decide +kernel
theorem dX11_isContent_12 : decode cX11_isContent 12 = .ok (.iconst 1, 1) := by decide +kernel
theorem dX11_isContent_13 : decode cX11_isContent 13 = .ok (.invokevirtual 316, 3) := by decide +kernel
theorem dX11_isContent_16 : decode cX11_isContent 16 = .ok (.if_icmp .ne 7, 3) := by decide +kernel
theorem dX11_isContent_19 : decode cX11_isContent 19 = .ok (.iconst 1, 1) := by decide +kernel
theorem dX11_isContent_20 : decode cX11_isContent 20 = .ok (.goto 4, 3) := by decide +kernel
theorem dX11_isContent_23 : decode cX11_isContent 23 = .ok (.iconst 0, 1) := by decide +kernel
theorem dX11_isContent_24 : decode cX11_isContent 24 = .ok (.ireturn, 1) := by decide +kernel
theorem dX11_contents_0 : decode cX11_contents 0 = .ok (.iconst 0, 1) := by decide +kernel
theorem dX11_contents_1 : decode cX11_contents 1 = .ok (.istore_n 1, 1) := by decide +kernel
theorem dX11_contents_2 : decode cX11_contents 2 = .ok (.iconst 0, 1) := by decide +kernel
theorem dX11_contents_3 : decode cX11_contents 3 = .ok (.istore_n 2, 1) := by decide +kernel
theorem dX11_contents_4 : decode cX11_contents 4 = .ok (.iload_n 2, 1) := by decide +kernel
theorem dX11_contents_5 : decode cX11_contents 5 = .ok (.aload_n 0, 1) := by decide +kernel
theorem dX11_contents_6 : decode cX11_contents 6 = .ok (.getfield 264, 3) := by decide +kernel
theorem dX11_contents_9 : decode cX11_contents 9 = .ok (.if_icmp .ge 27, 3) := by decide +kernel
theorem dX11_contents_12 : decode cX11_contents 12 = .ok (.iload_n 1, 1) := by decide +kernel
theorem dX11_contents_13 : decode cX11_contents 13 = .ok (.aload_n 0, 1) := by decide +kernel
theorem dX11_contents_14 : decode cX11_contents 14 = .ok (.iload_n 2, 1) := by decide +kernel
theorem dX11_contents_15 : decode cX11_contents 15 = .ok (.invokevirtual 322, 3) := by decide +kernel
theorem dX11_contents_18 : decode cX11_contents 18 = .ok (.ifCond .eq 9, 3) := by decide +kernel
theorem dX11_contents_21 : decode cX11_contents 21 = .ok (.iconst 1, 1) := by decide +kernel
theorem dX11_contents_22 : decode cX11_contents 22 = .ok (.iload_n 2, 1) := by decide +kernel
theorem dX11_contents_23 : decode cX11_contents 23 = .ok (.ishl, 1) := by decide +kernel
theorem dX11_contents_24 : decode cX11_contents 24 = .ok (.goto 4, 3) := by decide +kernel
theorem dX11_contents_27 : decode cX11_contents 27 = .ok (.iconst 0, 1) := by decide +kernel
theorem dX11_contents_28 : decode cX11_contents 28 = .ok (.ior, 1) := by decide +kernel
theorem dX11_contents_29 : decode cX11_contents 29 = .ok (.istore_n 1, 1) := by decide +kernel
theorem dX11_contents_30 : decode cX11_contents 30 = .ok (.iinc 2 1, 3) := by decide +kernel
theorem dX11_contents_33 : decode cX11_contents 33 = .ok (.goto (-29), 3) := by decide +kernel
theorem dX11_contents_36 : decode cX11_contents 36 = .ok (.iload_n 1, 1) := by decide +kernel
theorem dX11_contents_37 : decode cX11_contents 37 = .ok (.ireturn, 1) := by decide +kernel
theorem dX11_payOf_0 : decode cX11_payOf 0 = .ok (.iconst 0, 1) := by decide +kernel
theorem dX11_payOf_1 : decode cX11_payOf 1 = .ok (.istore_n 2, 1) := by decide +kernel
theorem dX11_payOf_2 : decode cX11_payOf 2 = .ok (.iconst 0, 1) := by decide +kernel
theorem dX11_payOf_3 : decode cX11_payOf 3 = .ok (.istore_n 3, 1) := by decide +kernel
theorem dX11_payOf_4 : decode cX11_payOf 4 = .ok (.iload_n 3, 1) := by decide +kernel
theorem dX11_payOf_5 : decode cX11_payOf 5 = .ok (.aload_n 0, 1) := by decide +kernel
theorem dX11_payOf_6 : decode cX11_payOf 6 = .ok (.getfield 264, 3) := by decide +kernel
theorem dX11_payOf_9 : decode cX11_payOf 9 = .ok (.if_icmp .ge 30, 3) := by decide +kernel
theorem dX11_payOf_12 : decode cX11_payOf 12 = .ok (.iload_n 2, 1) := by decide +kernel
theorem dX11_payOf_13 : decode cX11_payOf 13 = .ok (.iload_n 1, 1) := by decide +kernel
theorem dX11_payOf_14 : decode cX11_payOf 14 = .ok (.iload_n 3, 1) := by decide +kernel
theorem dX11_payOf_15 : decode cX11_payOf 15 = .ok (.invokestatic 219, 3) := by decide +kernel
theorem dX11_payOf_18 : decode cX11_payOf 18 = .ok (.ifCond .eq 12, 3) := by decide +kernel
theorem dX11_payOf_21 : decode cX11_payOf 21 = .ok (.aload_n 0, 1) := by decide +kernel
theorem dX11_payOf_22 : decode cX11_payOf 22 = .ok (.iload_n 3, 1) := by decide +kernel
theorem dX11_payOf_23 : decode cX11_payOf 23 = .ok (.iconst 2, 1) := by decide +kernel
theorem dX11_payOf_24 : decode cX11_payOf 24 = .ok (.invokevirtual 316, 3) := by decide +kernel
theorem dX11_payOf_27 : decode cX11_payOf 27 = .ok (.goto 4, 3) := by decide +kernel
theorem dX11_payOf_30 : decode cX11_payOf 30 = .ok (.iconst 0, 1) := by decide +kernel
theorem dX11_payOf_31 : decode cX11_payOf 31 = .ok (.iadd, 1) := by decide +kernel
theorem dX11_payOf_32 : decode cX11_payOf 32 = .ok (.istore_n 2, 1) := by decide +kernel
theorem dX11_payOf_33 : decode cX11_payOf 33 = .ok (.iinc 3 1, 3) := by decide +kernel
theorem dX11_payOf_36 : decode cX11_payOf 36 = .ok (.goto (-32), 3) := by decide +kernel
theorem dX11_payOf_39 : decode cX11_payOf 39 = .ok (.iload_n 2, 1) := by decide +kernel
theorem dX11_payOf_40 : decode cX11_payOf 40 = .ok (.ireturn, 1) := by decide +kernel
theorem dX11_rule_0 : decode cX11_rule 0 = .ok (.aload_n 0, 1) := by decide +kernel
theorem dX11_rule_1 : decode cX11_rule 1 = .ok (.getfield 261, 3) := by decide +kernel
theorem dX11_rule_4 : decode cX11_rule 4 = .ok (.ifCond .eq 12, 3) := by decide +kernel
theorem dX11_rule_7 : decode cX11_rule 7 = .ok (.iload_n 1, 1) := by decide +kernel
theorem dX11_rule_8 : decode cX11_rule 8 = .ok (.iconst 0, 1) := by decide +kernel
theorem dX11_rule_9 : decode cX11_rule 9 = .ok (.iconst 2, 1) := by decide +kernel
theorem dX11_rule_10 : decode cX11_rule 10 = .ok (.invokestatic 208, 3) := by decide +kernel
theorem dX11_rule_13 : decode cX11_rule 13 = .ok (.ifCond .ne 7, 3) := by decide +kernel
theorem dX11_rule_16 : decode cX11_rule 16 = .ok (.iconst (-1), 1) := by decide +kernel
theorem dX11_rule_17 : decode cX11_rule 17 = .ok (.goto 24, 3) := by decide +kernel
theorem dX11_rule_20 : decode cX11_rule 20 = .ok (.iload_n 1, 1) := by decide +kernel
theorem dX11_rule_21 : decode cX11_rule 21 = .ok (.iconst 2, 1) := by decide +kernel
theorem dX11_rule_22 : decode cX11_rule 22 = .ok (.if_icmp .ne 13, 3) := by decide +kernel
theorem dX11_rule_25 : decode cX11_rule 25 = .ok (.aload_n 0, 1) := by decide +kernel
theorem dX11_rule_26 : decode cX11_rule 26 = .ok (.getfield 64, 3) := by decide +kernel
theorem dX11_rule_29 : decode cX11_rule 29 = .ok (.bipush 8, 2) := by decide +kernel
theorem dX11_rule_31 : decode cX11_rule 31 = .ok (.iaload, 1) := by decide +kernel
theorem dX11_rule_32 : decode cX11_rule 32 = .ok (.goto 9, 3) := by decide +kernel
theorem dX11_rule_35 : decode cX11_rule 35 = .ok (.aload_n 0, 1) := by decide +kernel
theorem dX11_rule_36 : decode cX11_rule 36 = .ok (.getfield 52, 3) := by decide +kernel
theorem dX11_rule_39 : decode cX11_rule 39 = .ok (.iload_n 1, 1) := by decide +kernel
theorem dX11_rule_40 : decode cX11_rule 40 = .ok (.iaload, 1) := by decide +kernel
theorem dX11_rule_41 : decode cX11_rule 41 = .ok (.ireturn, 1) := by decide +kernel
theorem dX11_boy_0 : decode cX11_boy 0 = .ok (.aload_n 0, 1) := by decide +kernel
theorem dX11_boy_1 : decode cX11_boy 1 = .ok (.aload_n 0, 1) := by decide +kernel
theorem dX11_boy_2 : decode cX11_boy 2 = .ok (.iload_n 1, 1) := by decide +kernel
theorem dX11_boy_3 : decode cX11_boy 3 = .ok (.invokevirtual 325, 3) := by decide +kernel
theorem dX11_boy_6 : decode cX11_boy 6 = .ok (.ifCond .eq 16, 3) := by decide +kernel
theorem dX11_boy_9 : decode cX11_boy 9 = .ok (.iload_n 2, 1) := by decide +kernel
theorem dX11_boy_10 : decode cX11_boy 10 = .ok (.iconst 0, 1) := by decide +kernel
theorem dX11_boy_11 : decode cX11_boy 11 = .ok (.iconst 2, 1) := by decide +kernel
theorem dX11_boy_12 : decode cX11_boy 12 = .ok (.invokestatic 208, 3) := by decide +kernel
theorem dX11_boy_15 : decode cX11_boy 15 = .ok (.ifCond .eq 7, 3) := by decide +kernel
theorem dX11_boy_18 : decode cX11_boy 18 = .ok (.iconst 0, 1) := by decide +kernel
theorem dX11_boy_19 : decode cX11_boy 19 = .ok (.goto 4, 3) := by decide +kernel
theorem dX11_boy_22 : decode cX11_boy 22 = .ok (.iconst 1, 1) := by decide +kernel
theorem dX11_boy_23 : decode cX11_boy 23 = .ok (.putfield 93, 3) := by decide +kernel
theorem dX11_boy_26 : decode cX11_boy 26 = .ok (.aload_n 0, 1) := by decide +kernel
