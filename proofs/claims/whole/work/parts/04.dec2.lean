theorem dX12_compares_42 : decode cX12_compares 42 = .ok (.aload_n 0, 1) := by decide +kernel
theorem dX12_compares_43 : decode cX12_compares 43 = .ok (.dup, 1) := by decide +kernel
theorem dX12_compares_44 : decode cX12_compares 44 = .ok (.getfield 126, 3) := by decide +kernel
theorem dX12_compares_47 : decode cX12_compares 47 = .ok (.iconst 1, 1) := by decide +kernel
theorem dX12_compares_48 : decode cX12_compares 48 = .ok (.iadd, 1) := by decide +kernel
theorem dX12_compares_49 : decode cX12_compares 49 = .ok (.putfield 126, 3) := by decide +kernel
theorem dX12_compares_52 : decode cX12_compares 52 = .ok (.aload_n 0, 1) := by decide +kernel
theorem dX12_compares_53 : decode cX12_compares 53 = .ok (.invokevirtual 168, 3) := by decide +kernel
theorem dX12_compares_56 : decode cX12_compares 56 = .ok (.istore 5, 2) := by decide +kernel
theorem dX12_compares_58 : decode cX12_compares 58 = .ok (.iload 4, 2) := by decide +kernel
theorem dX12_compares_60 : decode cX12_compares 60 = .ok (.bipush 61, 2) := by decide +kernel
theorem dX12_compares_62 : decode cX12_compares 62 = .ok (.if_icmp .ne 17, 3) := by decide +kernel
theorem dX12_compares_65 : decode cX12_compares 65 = .ok (.iload_n 3, 1) := by decide +kernel
theorem dX12_compares_66 : decode cX12_compares 66 = .ok (.iload 5, 2) := by decide +kernel
theorem dX12_compares_68 : decode cX12_compares 68 = .ok (.if_icmp .ne 7, 3) := by decide +kernel
theorem dX12_compares_71 : decode cX12_compares 71 = .ok (.iconst 1, 1) := by decide +kernel
theorem dX12_compares_72 : decode cX12_compares 72 = .ok (.goto 39, 3) := by decide +kernel
theorem dX12_compares_75 : decode cX12_compares 75 = .ok (.iconst 0, 1) := by decide +kernel
theorem dX12_compares_76 : decode cX12_compares 76 = .ok (.goto 35, 3) := by decide +kernel
theorem dX12_compares_79 : decode cX12_compares 79 = .ok (.iload 4, 2) := by decide +kernel
theorem dX12_compares_81 : decode cX12_compares 81 = .ok (.bipush 60, 2) := by decide +kernel
theorem dX12_compares_83 : decode cX12_compares 83 = .ok (.if_icmp .ne 17, 3) := by decide +kernel
theorem dX12_compares_86 : decode cX12_compares 86 = .ok (.iload_n 3, 1) := by decide +kernel
theorem dX12_compares_87 : decode cX12_compares 87 = .ok (.iload 5, 2) := by decide +kernel
theorem dX12_compares_89 : decode cX12_compares 89 = .ok (.if_icmp .ge 7, 3) := by decide +kernel
theorem dX12_compares_92 : decode cX12_compares 92 = .ok (.iconst 1, 1) := by decide +kernel
theorem dX12_compares_93 : decode cX12_compares 93 = .ok (.goto 18, 3) := by decide +kernel
theorem dX12_compares_96 : decode cX12_compares 96 = .ok (.iconst 0, 1) := by decide +kernel
theorem dX12_compares_97 : decode cX12_compares 97 = .ok (.goto 14, 3) := by decide +kernel
theorem dX12_compares_100 : decode cX12_compares 100 = .ok (.iload_n 3, 1) := by decide +kernel
theorem dX12_compares_101 : decode cX12_compares 101 = .ok (.iload 5, 2) := by decide +kernel
theorem dX12_compares_103 : decode cX12_compares 103 = .ok (.if_icmp .le 7, 3) := by decide +kernel
theorem dX12_compares_106 : decode cX12_compares 106 = .ok (.iconst 1, 1) := by decide +kernel
theorem dX12_compares_107 : decode cX12_compares 107 = .ok (.goto 4, 3) := by decide +kernel
theorem dX12_compares_110 : decode cX12_compares 110 = .ok (.iconst 0, 1) := by decide +kernel
theorem dX12_compares_111 : decode cX12_compares 111 = .ok (.ireturn, 1) := by decide +kernel
theorem dX12_unit_0 : decode cX12_unit 0 = .ok (.aload_n 0, 1) := by decide +kernel
theorem dX12_unit_1 : decode cX12_unit 1 = .ok (.invokevirtual 145, 3) := by decide +kernel
theorem dX12_unit_4 : decode cX12_unit 4 = .ok (.istore_n 1, 1) := by decide +kernel
theorem dX12_unit_5 : decode cX12_unit 5 = .ok (.iload_n 1, 1) := by decide +kernel
theorem dX12_unit_6 : decode cX12_unit 6 = .ok (.bipush 33, 2) := by decide +kernel
theorem dX12_unit_8 : decode cX12_unit 8 = .ok (.if_icmp .ne 37, 3) := by decide +kernel
theorem dX12_unit_11 : decode cX12_unit 11 = .ok (.aload_n 0, 1) := by decide +kernel
theorem dX12_unit_12 : decode cX12_unit 12 = .ok (.invokevirtual 165, 3) := by decide +kernel
theorem dX12_unit_15 : decode cX12_unit 15 = .ok (.ifCond .ne 5, 3) := by decide +kernel
theorem dX12_unit_18 : decode cX12_unit 18 = .ok (.iconst 0, 1) := by decide +kernel
theorem dX12_unit_19 : decode cX12_unit 19 = .ok (.ireturn, 1) := by decide +kernel
theorem dX12_unit_20 : decode cX12_unit 20 = .ok (.aload_n 0, 1) := by decide +kernel
theorem dX12_unit_21 : decode cX12_unit 21 = .ok (.invokevirtual 191, 3) := by decide +kernel
theorem dX12_unit_24 : decode cX12_unit 24 = .ok (.istore_n 2, 1) := by decide +kernel
theorem dX12_unit_25 : decode cX12_unit 25 = .ok (.aload_n 0, 1) := by decide +kernel
theorem dX12_unit_26 : decode cX12_unit 26 = .ok (.dup, 1) := by decide +kernel
theorem dX12_unit_27 : decode cX12_unit 27 = .ok (.getfield 138, 3) := by decide +kernel
theorem dX12_unit_30 : decode cX12_unit 30 = .ok (.iconst 1, 1) := by decide +kernel
theorem dX12_unit_31 : decode cX12_unit 31 = .ok (.isub, 1) := by decide +kernel
theorem dX12_unit_32 : decode cX12_unit 32 = .ok (.putfield 138, 3) := by decide +kernel
theorem dX12_unit_35 : decode cX12_unit 35 = .ok (.iload_n 2, 1) := by decide +kernel
theorem dX12_unit_36 : decode cX12_unit 36 = .ok (.ifCond .ne 7, 3) := by decide +kernel
theorem dX12_unit_39 : decode cX12_unit 39 = .ok (.iconst 1, 1) := by decide +kernel
theorem dX12_unit_40 : decode cX12_unit 40 = .ok (.goto 4, 3) := by decide +kernel
theorem dX12_unit_43 : decode cX12_unit 43 = .ok (.iconst 0, 1) := by decide +kernel
theorem dX12_unit_44 : decode cX12_unit 44 = .ok (.ireturn, 1) := by decide +kernel
theorem dX12_unit_45 : decode cX12_unit 45 = .ok (.iload_n 1, 1) := by decide +kernel
theorem dX12_unit_46 : decode cX12_unit 46 = .ok (.bipush 40, 2) := by decide +kernel
theorem dX12_unit_48 : decode cX12_unit 48 = .ok (.if_icmp .ne 42, 3) := by decide +kernel
theorem dX12_unit_51 : decode cX12_unit 51 = .ok (.aload_n 0, 1) := by decide +kernel
theorem dX12_unit_52 : decode cX12_unit 52 = .ok (.invokevirtual 165, 3) := by decide +kernel
theorem dX12_unit_55 : decode cX12_unit 55 = .ok (.ifCond .ne 5, 3) := by decide +kernel
theorem dX12_unit_58 : decode cX12_unit 58 = .ok (.iconst 0, 1) := by decide +kernel
theorem dX12_unit_59 : decode cX12_unit 59 = .ok (.ireturn, 1) := by decide +kernel
theorem dX12_unit_60 : decode cX12_unit 60 = .ok (.aload_n 0, 1) := by decide +kernel
theorem dX12_unit_61 : decode cX12_unit 61 = .ok (.iconst 0, 1) := by decide +kernel
theorem dX12_unit_62 : decode cX12_unit 62 = .ok (.iconst 0, 1) := by decide +kernel
theorem dX12_unit_63 : decode cX12_unit 63 = .ok (.invokevirtual 194, 3) := by decide +kernel
theorem dX12_unit_66 : decode cX12_unit 66 = .ok (.istore_n 2, 1) := by decide +kernel
theorem dX12_unit_67 : decode cX12_unit 67 = .ok (.aload_n 0, 1) := by decide +kernel
theorem dX12_unit_68 : decode cX12_unit 68 = .ok (.bipush 41, 2) := by decide +kernel
theorem dX12_unit_70 : decode cX12_unit 70 = .ok (.invokevirtual 171, 3) := by decide +kernel
theorem dX12_unit_73 : decode cX12_unit 73 = .ok (.ifCond .ne 5, 3) := by decide +kernel
theorem dX12_unit_76 : decode cX12_unit 76 = .ok (.iconst 0, 1) := by decide +kernel
theorem dX12_unit_77 : decode cX12_unit 77 = .ok (.ireturn, 1) := by decide +kernel
theorem dX12_unit_78 : decode cX12_unit 78 = .ok (.aload_n 0, 1) := by decide +kernel
theorem dX12_unit_79 : decode cX12_unit 79 = .ok (.dup, 1) := by decide +kernel
theorem dX12_unit_80 : decode cX12_unit 80 = .ok (.getfield 138, 3) := by decide +kernel
theorem dX12_unit_83 : decode cX12_unit 83 = .ok (.iconst 1, 1) := by decide +kernel
theorem dX12_unit_84 : decode cX12_unit 84 = .ok (.isub, 1) := by decide +kernel
theorem dX12_unit_85 : decode cX12_unit 85 = .ok (.putfield 138, 3) := by decide +kernel
theorem dX12_unit_88 : decode cX12_unit 88 = .ok (.iload_n 2, 1) := by decide +kernel
theorem dX12_unit_89 : decode cX12_unit 89 = .ok (.ireturn, 1) := by decide +kernel
theorem dX12_unit_90 : decode cX12_unit 90 = .ok (.aload_n 0, 1) := by decide +kernel
theorem dX12_unit_91 : decode cX12_unit 91 = .ok (.iconst 0, 1) := by decide +kernel
theorem dX12_unit_92 : decode cX12_unit 92 = .ok (.iconst 0, 1) := by decide +kernel
theorem dX12_unit_93 : decode cX12_unit 93 = .ok (.invokevirtual 198, 3) := by decide +kernel
theorem dX12_unit_96 : decode cX12_unit 96 = .ok (.ireturn, 1) := by decide +kernel
theorem dX12_part_0 : decode cX12_part 0 = .ok (.iload_n 1, 1) := by decide +kernel
theorem dX12_part_1 : decode cX12_part 1 = .ok (.ifCond .eq 12, 3) := by decide +kernel
theorem dX12_part_4 : decode cX12_part 4 = .ok (.aload_n 0, 1) := by decide +kernel
theorem dX12_part_5 : decode cX12_part 5 = .ok (.iconst 1, 1) := by decide +kernel
theorem dX12_part_6 : decode cX12_part 6 = .ok (.iload_n 2, 1) := by decide +kernel
theorem dX12_part_7 : decode cX12_part 7 = .ok (.invokevirtual 198, 3) := by decide +kernel
theorem dX12_part_10 : decode cX12_part 10 = .ok (.goto 7, 3) := by decide +kernel
theorem dX12_part_13 : decode cX12_part 13 = .ok (.aload_n 0, 1) := by decide +kernel
theorem dX12_part_14 : decode cX12_part 14 = .ok (.invokevirtual 191, 3) := by decide +kernel
theorem dX12_part_17 : decode cX12_part 17 = .ok (.istore_n 3, 1) := by decide +kernel
theorem dX12_part_18 : decode cX12_part 18 = .ok (.aload_n 0, 1) := by decide +kernel
theorem dX12_part_19 : decode cX12_part 19 = .ok (.getfield 135, 3) := by decide +kernel
theorem dX12_part_22 : decode cX12_part 22 = .ok (.iconst (-1), 1) := by decide +kernel
theorem dX12_part_23 : decode cX12_part 23 = .ok (.if_icmp .ne 46, 3) := by decide +kernel
theorem dX12_part_26 : decode cX12_part 26 = .ok (.aload_n 0, 1) := by decide +kernel
theorem dX12_part_27 : decode cX12_part 27 = .ok (.invokevirtual 145, 3) := by decide +kernel
theorem dX12_part_30 : decode cX12_part 30 = .ok (.bipush 38, 2) := by decide +kernel
theorem dX12_part_32 : decode cX12_part 32 = .ok (.if_icmp .ne 37, 3) := by decide +kernel
theorem dX12_part_35 : decode cX12_part 35 = .ok (.aload_n 0, 1) := by decide +kernel
theorem dX12_part_36 : decode cX12_part 36 = .ok (.dup, 1) := by decide +kernel
theorem dX12_part_37 : decode cX12_part 37 = .ok (.getfield 126, 3) := by decide +kernel
theorem dX12_part_40 : decode cX12_part 40 = .ok (.iconst 1, 1) := by decide +kernel
theorem dX12_part_41 : decode cX12_part 41 = .ok (.iadd, 1) := by decide +kernel
theorem dX12_part_42 : decode cX12_part 42 = .ok (.putfield 126, 3) := by decide +kernel
theorem dX12_part_45 : decode cX12_part 45 = .ok (.aload_n 0, 1) := by decide +kernel
theorem dX12_part_46 : decode cX12_part 46 = .ok (.invokevirtual 191, 3) := by decide +kernel
theorem dX12_part_49 : decode cX12_part 49 = .ok (.istore 4, 2) := by decide +kernel
theorem dX12_part_51 : decode cX12_part 51 = .ok (.iload_n 3, 1) := by decide +kernel
theorem dX12_part_52 : decode cX12_part 52 = .ok (.ifCond .eq 12, 3) := by decide +kernel
theorem dX12_part_55 : decode cX12_part 55 = .ok (.iload 4, 2) := by decide +kernel
theorem dX12_part_57 : decode cX12_part 57 = .ok (.ifCond .eq 7, 3) := by decide +kernel
theorem dX12_part_60 : decode cX12_part 60 = .ok (.iconst 1, 1) := by decide +kernel
theorem dX12_part_61 : decode cX12_part 61 = .ok (.goto 4, 3) := by decide +kernel
theorem dX12_part_64 : decode cX12_part 64 = .ok (.iconst 0, 1) := by decide +kernel
theorem dX12_part_65 : decode cX12_part 65 = .ok (.istore_n 3, 1) := by decide +kernel
theorem dX12_part_66 : decode cX12_part 66 = .ok (.goto (-48), 3) := by decide +kernel
theorem dX12_part_69 : decode cX12_part 69 = .ok (.iload_n 3, 1) := by decide +kernel
theorem dX12_part_70 : decode cX12_part 70 = .ok (.ireturn, 1) := by decide +kernel
theorem dX12_condition_0 : decode cX12_condition 0 = .ok (.aload_n 0, 1) := by decide +kernel
theorem dX12_condition_1 : decode cX12_condition 1 = .ok (.iload_n 1, 1) := by decide +kernel
theorem dX12_condition_2 : decode cX12_condition 2 = .ok (.iload_n 2, 1) := by decide +kernel
theorem dX12_condition_3 : decode cX12_condition 3 = .ok (.invokevirtual 201, 3) := by decide +kernel
theorem dX12_condition_6 : decode cX12_condition 6 = .ok (.istore_n 3, 1) := by decide +kernel
theorem dX12_condition_7 : decode cX12_condition 7 = .ok (.aload_n 0, 1) := by decide +kernel
theorem dX12_condition_8 : decode cX12_condition 8 = .ok (.getfield 135, 3) := by decide +kernel
theorem dX12_condition_11 : decode cX12_condition 11 = .ok (.iconst (-1), 1) := by decide +kernel
theorem dX12_condition_12 : decode cX12_condition 12 = .ok (.if_icmp .ne 48, 3) := by decide +kernel
theorem dX12_condition_15 : decode cX12_condition 15 = .ok (.aload_n 0, 1) := by decide +kernel
theorem dX12_condition_16 : decode cX12_condition 16 = .ok (.invokevirtual 145, 3) := by decide +kernel
theorem dX12_condition_19 : decode cX12_condition 19 = .ok (.bipush 124, 2) := by decide +kernel
theorem dX12_condition_21 : decode cX12_condition 21 = .ok (.if_icmp .ne 39, 3) := by decide +kernel
theorem dX12_condition_24 : decode cX12_condition 24 = .ok (.aload_n 0, 1) := by decide +kernel
theorem dX12_condition_25 : decode cX12_condition 25 = .ok (.dup, 1) := by decide +kernel
theorem dX12_condition_26 : decode cX12_condition 26 = .ok (.getfield 126, 3) := by decide +kernel
theorem dX12_condition_29 : decode cX12_condition 29 = .ok (.iconst 1, 1) := by decide +kernel
theorem dX12_condition_30 : decode cX12_condition 30 = .ok (.iadd, 1) := by decide +kernel
theorem dX12_condition_31 : decode cX12_condition 31 = .ok (.putfield 126, 3) := by decide +kernel
theorem dX12_condition_34 : decode cX12_condition 34 = .ok (.aload_n 0, 1) := by decide +kernel
theorem dX12_condition_35 : decode cX12_condition 35 = .ok (.iconst 0, 1) := by decide +kernel
theorem dX12_condition_36 : decode cX12_condition 36 = .ok (.iconst 0, 1) := by decide +kernel
theorem dX12_condition_37 : decode cX12_condition 37 = .ok (.invokevirtual 201, 3) := by decide +kernel
theorem dX12_condition_40 : decode cX12_condition 40 = .ok (.istore 4, 2) := by decide +kernel
theorem dX12_condition_42 : decode cX12_condition 42 = .ok (.iload_n 3, 1) := by decide +kernel
theorem dX12_condition_43 : decode cX12_condition 43 = .ok (.ifCond .ne 8, 3) := by decide +kernel
theorem dX12_condition_46 : decode cX12_condition 46 = .ok (.iload 4, 2) := by decide +kernel
theorem dX12_condition_48 : decode cX12_condition 48 = .ok (.ifCond .eq 7, 3) := by decide +kernel
theorem dX12_condition_51 : decode cX12_condition 51 = .ok (.iconst 1, 1) := by decide +kernel
theorem dX12_condition_52 : decode cX12_condition 52 = .ok (.goto 4, 3) := by decide +kernel
theorem dX12_condition_55 : decode cX12_condition 55 = .ok (.iconst 0, 1) := by decide +kernel
theorem dX12_condition_56 : decode cX12_condition 56 = .ok (.istore_n 3, 1) := by decide +kernel
theorem dX12_condition_57 : decode cX12_condition 57 = .ok (.goto (-50), 3) := by decide +kernel
theorem dX12_condition_60 : decode cX12_condition 60 = .ok (.iload_n 3, 1) := by decide +kernel
theorem dX12_condition_61 : decode cX12_condition 61 = .ok (.ireturn, 1) := by decide +kernel
theorem dX12_clause_0 : decode cX12_clause 0 = .ok (.aload_n 0, 1) := by decide +kernel
theorem dX12_clause_1 : decode cX12_clause 1 = .ok (.invokevirtual 145, 3) := by decide +kernel
theorem dX12_clause_4 : decode cX12_clause 4 = .ok (.istore_n 1, 1) := by decide +kernel
theorem dX12_clause_5 : decode cX12_clause 5 = .ok (.ldc 26, 2) := by decide +kernel
theorem dX12_clause_7 : decode cX12_clause 7 = .ok (.iload_n 1, 1) := by decide +kernel
theorem dX12_clause_8 : decode cX12_clause 8 = .ok (.invokestatic 161, 3) := by decide +kernel
theorem dX12_clause_11 : decode cX12_clause 11 = .ok (.ifCond .ne 9, 3) := by decide +kernel
theorem dX12_clause_14 : decode cX12_clause 14 = .ok (.aload_n 0, 1) := by decide +kernel
theorem dX12_clause_15 : decode cX12_clause 15 = .ok (.invokevirtual 141, 3) := by decide +kernel
theorem dX12_clause_18 : decode cX12_clause 18 = .ok (.pop, 1) := by decide +kernel
theorem dX12_clause_19 : decode cX12_clause 19 = .ok (.return_, 1) := by decide +kernel
theorem dX12_clause_20 : decode cX12_clause 20 = .ok (.aload_n 0, 1) := by decide +kernel
theorem dX12_clause_21 : decode cX12_clause 21 = .ok (.dup, 1) := by decide +kernel
theorem dX12_clause_22 : decode cX12_clause 22 = .ok (.getfield 126, 3) := by decide +kernel
theorem dX12_clause_25 : decode cX12_clause 25 = .ok (.iconst 1, 1) := by decide +kernel
theorem dX12_clause_26 : decode cX12_clause 26 = .ok (.iadd, 1) := by decide +kernel
theorem dX12_clause_27 : decode cX12_clause 27 = .ok (.putfield 126, 3) := by decide +kernel
theorem dX12_clause_30 : decode cX12_clause 30 = .ok (.aload_n 0, 1) := by decide +kernel
theorem dX12_clause_31 : decode cX12_clause 31 = .ok (.bipush 58, 2) := by decide +kernel
theorem dX12_clause_33 : decode cX12_clause 33 = .ok (.invokevirtual 171, 3) := by decide +kernel
theorem dX12_clause_36 : decode cX12_clause 36 = .ok (.ifCond .ne 4, 3) := by decide +kernel
theorem dX12_clause_39 : decode cX12_clause 39 = .ok (.return_, 1) := by decide +kernel
theorem dX12_clause_40 : decode cX12_clause 40 = .ok (.iconst 1, 1) := by decide +kernel
theorem dX12_clause_41 : decode cX12_clause 41 = .ok (.istore_n 2, 1) := by decide +kernel
theorem dX12_clause_42 : decode cX12_clause 42 = .ok (.iconst 0, 1) := by decide +kernel
theorem dX12_clause_43 : decode cX12_clause 43 = .ok (.istore_n 3, 1) := by decide +kernel
theorem dX12_clause_44 : decode cX12_clause 44 = .ok (.aload_n 0, 1) := by decide +kernel
theorem dX12_clause_45 : decode cX12_clause 45 = .ok (.invokevirtual 145, 3) := by decide +kernel
theorem dX12_clause_48 : decode cX12_clause 48 = .ok (.istore 4, 2) := by decide +kernel
theorem dX12_clause_50 : decode cX12_clause 50 = .ok (.iload 4, 2) := by decide +kernel
theorem dX12_clause_52 : decode cX12_clause 52 = .ok (.bipush 33, 2) := by decide +kernel
theorem dX12_clause_54 : decode cX12_clause 54 = .ok (.if_icmp .eq 10, 3) := by decide +kernel
theorem dX12_clause_57 : decode cX12_clause 57 = .ok (.iload 4, 2) := by decide +kernel
theorem dX12_clause_59 : decode cX12_clause 59 = .ok (.bipush 40, 2) := by decide +kernel
theorem dX12_clause_61 : decode cX12_clause 61 = .ok (.if_icmp .ne 28, 3) := by decide +kernel
theorem dX12_clause_64 : decode cX12_clause 64 = .ok (.aload_n 0, 1) := by decide +kernel
theorem dX12_clause_65 : decode cX12_clause 65 = .ok (.iconst 0, 1) := by decide +kernel
theorem dX12_clause_66 : decode cX12_clause 66 = .ok (.iconst 0, 1) := by decide +kernel
theorem dX12_clause_67 : decode cX12_clause 67 = .ok (.invokevirtual 194, 3) := by decide +kernel
theorem dX12_clause_70 : decode cX12_clause 70 = .ok (.istore_n 2, 1) := by decide +kernel
theorem dX12_clause_71 : decode cX12_clause 71 = .ok (.aload_n 0, 1) := by decide +kernel
theorem dX12_clause_72 : decode cX12_clause 72 = .ok (.bipush 63, 2) := by decide +kernel
theorem dX12_clause_74 : decode cX12_clause 74 = .ok (.invokevirtual 171, 3) := by decide +kernel
theorem dX12_clause_77 : decode cX12_clause 77 = .ok (.ifCond .ne 4, 3) := by decide +kernel
theorem dX12_clause_80 : decode cX12_clause 80 = .ok (.return_, 1) := by decide +kernel
theorem dX12_clause_81 : decode cX12_clause 81 = .ok (.aload_n 0, 1) := by decide +kernel
theorem dX12_clause_82 : decode cX12_clause 82 = .ok (.invokevirtual 168, 3) := by decide +kernel
theorem dX12_clause_85 : decode cX12_clause 85 = .ok (.istore_n 3, 1) := by decide +kernel
theorem dX12_clause_86 : decode cX12_clause 86 = .ok (.goto 48, 3) := by decide +kernel
theorem dX12_clause_89 : decode cX12_clause 89 = .ok (.aload_n 0, 1) := by decide +kernel
theorem dX12_clause_90 : decode cX12_clause 90 = .ok (.invokevirtual 168, 3) := by decide +kernel
theorem dX12_clause_93 : decode cX12_clause 93 = .ok (.istore_n 3, 1) := by decide +kernel
theorem dX12_clause_94 : decode cX12_clause 94 = .ok (.aload_n 0, 1) := by decide +kernel
theorem dX12_clause_95 : decode cX12_clause 95 = .ok (.getfield 135, 3) := by decide +kernel
theorem dX12_clause_98 : decode cX12_clause 98 = .ok (.iconst (-1), 1) := by decide +kernel
theorem dX12_clause_99 : decode cX12_clause 99 = .ok (.if_icmp .ne 35, 3) := by decide +kernel
theorem dX12_clause_102 : decode cX12_clause 102 = .ok (.aload_n 0, 1) := by decide +kernel
theorem dX12_clause_103 : decode cX12_clause 103 = .ok (.invokevirtual 145, 3) := by decide +kernel
theorem dX12_clause_106 : decode cX12_clause 106 = .ok (.invokestatic 188, 3) := by decide +kernel
theorem dX12_clause_109 : decode cX12_clause 109 = .ok (.ifCond .eq 25, 3) := by decide +kernel
theorem dX12_clause_112 : decode cX12_clause 112 = .ok (.aload_n 0, 1) := by decide +kernel
theorem dX12_clause_113 : decode cX12_clause 113 = .ok (.iconst 1, 1) := by decide +kernel
theorem dX12_clause_114 : decode cX12_clause 114 = .ok (.iload_n 3, 1) := by decide +kernel
theorem dX12_clause_115 : decode cX12_clause 115 = .ok (.invokevirtual 194, 3) := by decide +kernel
theorem dX12_clause_118 : decode cX12_clause 118 = .ok (.istore_n 2, 1) := by decide +kernel
theorem dX12_clause_119 : decode cX12_clause 119 = .ok (.aload_n 0, 1) := by decide +kernel
theorem dX12_clause_120 : decode cX12_clause 120 = .ok (.bipush 63, 2) := by decide +kernel
theorem dX12_clause_122 : decode cX12_clause 122 = .ok (.invokevirtual 171, 3) := by decide +kernel
theorem dX12_clause_125 : decode cX12_clause 125 = .ok (.ifCond .ne 4, 3) := by decide +kernel
theorem dX12_clause_128 : decode cX12_clause 128 = .ok (.return_, 1) := by decide +kernel
theorem dX12_clause_129 : decode cX12_clause 129 = .ok (.aload_n 0, 1) := by decide +kernel
theorem dX12_clause_130 : decode cX12_clause 130 = .ok (.invokevirtual 168, 3) := by decide +kernel
theorem dX12_clause_133 : decode cX12_clause 133 = .ok (.istore_n 3, 1) := by decide +kernel
theorem dX12_clause_134 : decode cX12_clause 134 = .ok (.aload_n 0, 1) := by decide +kernel
theorem dX12_clause_135 : decode cX12_clause 135 = .ok (.getfield 135, 3) := by decide +kernel
theorem dX12_clause_138 : decode cX12_clause 138 = .ok (.iconst (-1), 1) := by decide +kernel
theorem dX12_clause_139 : decode cX12_clause 139 = .ok (.if_icmp .ne 22, 3) := by decide +kernel
theorem dX12_clause_142 : decode cX12_clause 142 = .ok (.aload_n 0, 1) := by decide +kernel
theorem dX12_clause_143 : decode cX12_clause 143 = .ok (.getfield 204, 3) := by decide +kernel
theorem dX12_clause_146 : decode cX12_clause 146 = .ok (.ifCond .ne 15, 3) := by decide +kernel
theorem dX12_clause_149 : decode cX12_clause 149 = .ok (.iload_n 1, 1) := by decide +kernel
theorem dX12_clause_150 : decode cX12_clause 150 = .ok (.aload_n 0, 1) := by decide +kernel
theorem dX12_clause_151 : decode cX12_clause 151 = .ok (.getfield 208, 3) := by decide +kernel
theorem dX12_clause_154 : decode cX12_clause 154 = .ok (.if_icmp .ne 7, 3) := by decide +kernel
theorem dX12_clause_157 : decode cX12_clause 157 = .ok (.iload_n 2, 1) := by decide +kernel
theorem dX12_clause_158 : decode cX12_clause 158 = .ok (.ifCond .ne 4, 3) := by decide +kernel
theorem dX12_clause_161 : decode cX12_clause 161 = .ok (.return_, 1) := by decide +kernel
theorem dX12_clause_162 : decode cX12_clause 162 = .ok (.aload_n 0, 1) := by decide +kernel
theorem dX12_clause_163 : decode cX12_clause 163 = .ok (.iconst 1, 1) := by decide +kernel
theorem dX12_clause_164 : decode cX12_clause 164 = .ok (.putfield 204, 3) := by decide +kernel
theorem dX12_clause_167 : decode cX12_clause 167 = .ok (.aload_n 0, 1) := by decide +kernel
theorem dX12_clause_168 : decode cX12_clause 168 = .ok (.iload_n 3, 1) := by decide +kernel
theorem dX12_clause_169 : decode cX12_clause 169 = .ok (.putfield 211, 3) := by decide +kernel
theorem dX12_clause_172 : decode cX12_clause 172 = .ok (.return_, 1) := by decide +kernel
theorem dX12_starts_0 : decode cX12_starts 0 = .ok (.aload_n 0, 1) := by decide +kernel
theorem dX12_starts_1 : decode cX12_starts 1 = .ok (.aload_n 1, 1) := by decide +kernel
theorem dX12_starts_2 : decode cX12_starts 2 = .ok (.putfield 23, 3) := by decide +kernel
theorem dX12_starts_5 : decode cX12_starts 5 = .ok (.aload_n 0, 1) := by decide +kernel
theorem dX12_starts_6 : decode cX12_starts 6 = .ok (.iload_n 2, 1) := by decide +kernel
theorem dX12_starts_7 : decode cX12_starts 7 = .ok (.putfield 132, 3) := by decide +kernel
theorem dX12_starts_10 : decode cX12_starts 10 = .ok (.aload_n 0, 1) := by decide +kernel
theorem dX12_starts_11 : decode cX12_starts 11 = .ok (.iload_n 3, 1) := by decide +kernel
theorem dX12_starts_12 : decode cX12_starts 12 = .ok (.putfield 129, 3) := by decide +kernel
theorem dX12_starts_15 : decode cX12_starts 15 = .ok (.aload_n 0, 1) := by decide +kernel
theorem dX12_starts_16 : decode cX12_starts 16 = .ok (.iconst 0, 1) := by decide +kernel
theorem dX12_starts_17 : decode cX12_starts 17 = .ok (.putfield 126, 3) := by decide +kernel
theorem dX12_starts_20 : decode cX12_starts 20 = .ok (.aload_n 0, 1) := by decide +kernel
theorem dX12_starts_21 : decode cX12_starts 21 = .ok (.iconst (-1), 1) := by decide +kernel
theorem dX12_starts_22 : decode cX12_starts 22 = .ok (.putfield 135, 3) := by decide +kernel
theorem dX12_starts_25 : decode cX12_starts 25 = .ok (.return_, 1) := by decide +kernel
theorem dX12_goThrough_0 : decode cX12_goThrough 0 = .ok (.aload_n 0, 1) := by decide +kernel
theorem dX12_goThrough_1 : decode cX12_goThrough 1 = .ok (.aload_n 1, 1) := by decide +kernel
theorem dX12_goThrough_2 : decode cX12_goThrough 2 = .ok (.iload_n 2, 1) := by decide +kernel
theorem dX12_goThrough_3 : decode cX12_goThrough 3 = .ok (.iload_n 3, 1) := by decide +kernel
theorem dX12_goThrough_4 : decode cX12_goThrough 4 = .ok (.invokevirtual 214, 3) := by decide +kernel
theorem dX12_goThrough_7 : decode cX12_goThrough 7 = .ok (.aload_n 0, 1) := by decide +kernel
theorem dX12_goThrough_8 : decode cX12_goThrough 8 = .ok (.bipush 121, 2) := by decide +kernel
theorem dX12_goThrough_10 : decode cX12_goThrough 10 = .ok (.putfield 208, 3) := by decide +kernel
theorem dX12_goThrough_13 : decode cX12_goThrough 13 = .ok (.aload_n 0, 1) := by decide +kernel
theorem dX12_goThrough_14 : decode cX12_goThrough 14 = .ok (.iconst 0, 1) := by decide +kernel
theorem dX12_goThrough_15 : decode cX12_goThrough 15 = .ok (.putfield 138, 3) := by decide +kernel
theorem dX12_goThrough_18 : decode cX12_goThrough 18 = .ok (.aload_n 0, 1) := by decide +kernel
theorem dX12_goThrough_19 : decode cX12_goThrough 19 = .ok (.iconst 0, 1) := by decide +kernel
theorem dX12_goThrough_20 : decode cX12_goThrough 20 = .ok (.putfield 204, 3) := by decide +kernel
theorem dX12_goThrough_23 : decode cX12_goThrough 23 = .ok (.aload_n 0, 1) := by decide +kernel
theorem dX12_goThrough_24 : decode cX12_goThrough 24 = .ok (.iconst 0, 1) := by decide +kernel
theorem dX12_goThrough_25 : decode cX12_goThrough 25 = .ok (.putfield 211, 3) := by decide +kernel
theorem dX12_goThrough_28 : decode cX12_goThrough 28 = .ok (.aload_n 0, 1) := by decide +kernel
theorem dX12_goThrough_29 : decode cX12_goThrough 29 = .ok (.invokevirtual 218, 3) := by decide +kernel
theorem dX12_goThrough_32 : decode cX12_goThrough 32 = .ok (.aload_n 0, 1) := by decide +kernel
theorem dX12_goThrough_33 : decode cX12_goThrough 33 = .ok (.getfield 135, 3) := by decide +kernel
theorem dX12_goThrough_36 : decode cX12_goThrough 36 = .ok (.iconst (-1), 1) := by decide +kernel
theorem dX12_goThrough_37 : decode cX12_goThrough 37 = .ok (.if_icmp .ne 29, 3) := by decide +kernel
theorem dX12_goThrough_40 : decode cX12_goThrough 40 = .ok (.aload_n 0, 1) := by decide +kernel
theorem dX12_goThrough_41 : decode cX12_goThrough 41 = .ok (.invokevirtual 145, 3) := by decide +kernel
theorem dX12_goThrough_44 : decode cX12_goThrough 44 = .ok (.bipush 59, 2) := by decide +kernel
theorem dX12_goThrough_46 : decode cX12_goThrough 46 = .ok (.if_icmp .ne 20, 3) := by decide +kernel
theorem dX12_goThrough_49 : decode cX12_goThrough 49 = .ok (.aload_n 0, 1) := by decide +kernel
theorem dX12_goThrough_50 : decode cX12_goThrough 50 = .ok (.dup, 1) := by decide +kernel
theorem dX12_goThrough_51 : decode cX12_goThrough 51 = .ok (.getfield 126, 3) := by decide +kernel
theorem dX12_goThrough_54 : decode cX12_goThrough 54 = .ok (.iconst 1, 1) := by decide +kernel
theorem dX12_goThrough_55 : decode cX12_goThrough 55 = .ok (.iadd, 1) := by decide +kernel
theorem dX12_goThrough_56 : decode cX12_goThrough 56 = .ok (.putfield 126, 3) := by decide +kernel
theorem dX12_goThrough_59 : decode cX12_goThrough 59 = .ok (.aload_n 0, 1) := by decide +kernel
theorem dX12_goThrough_60 : decode cX12_goThrough 60 = .ok (.invokevirtual 218, 3) := by decide +kernel
theorem dX12_goThrough_63 : decode cX12_goThrough 63 = .ok (.goto (-31), 3) := by decide +kernel
theorem dX12_goThrough_66 : decode cX12_goThrough 66 = .ok (.aload_n 0, 1) := by decide +kernel
theorem dX12_goThrough_67 : decode cX12_goThrough 67 = .ok (.getfield 135, 3) := by decide +kernel
theorem dX12_goThrough_70 : decode cX12_goThrough 70 = .ok (.iconst (-1), 1) := by decide +kernel
theorem dX12_goThrough_71 : decode cX12_goThrough 71 = .ok (.if_icmp .ne 16, 3) := by decide +kernel
theorem dX12_goThrough_74 : decode cX12_goThrough 74 = .ok (.aload_n 0, 1) := by decide +kernel
theorem dX12_goThrough_75 : decode cX12_goThrough 75 = .ok (.invokevirtual 145, 3) := by decide +kernel
theorem dX12_goThrough_78 : decode cX12_goThrough 78 = .ok (.iconst (-1), 1) := by decide +kernel
theorem dX12_goThrough_79 : decode cX12_goThrough 79 = .ok (.if_icmp .eq 8, 3) := by decide +kernel
theorem dX12_goThrough_82 : decode cX12_goThrough 82 = .ok (.aload_n 0, 1) := by decide +kernel
theorem dX12_goThrough_83 : decode cX12_goThrough 83 = .ok (.invokevirtual 141, 3) := by decide +kernel
theorem dX12_goThrough_86 : decode cX12_goThrough 86 = .ok (.pop, 1) := by decide +kernel
theorem dX12_goThrough_87 : decode cX12_goThrough 87 = .ok (.return_, 1) := by decide +kernel
theorem dX12_here_0 : decode cX12_here 0 = .ok (.aload_n 0, 1) := by decide +kernel
theorem dX12_here_1 : decode cX12_here 1 = .ok (.getfield 126, 3) := by decide +kernel
theorem dX12_here_4 : decode cX12_here 4 = .ok (.aload_n 0, 1) := by decide +kernel
theorem dX12_here_5 : decode cX12_here 5 = .ok (.getfield 129, 3) := by decide +kernel
theorem dX12_here_8 : decode cX12_here 8 = .ok (.if_icmp .ge 24, 3) := by decide +kernel
theorem dX12_here_11 : decode cX12_here 11 = .ok (.aload_n 0, 1) := by decide +kernel
theorem dX12_here_12 : decode cX12_here 12 = .ok (.getfield 23, 3) := by decide +kernel
theorem dX12_here_15 : decode cX12_here 15 = .ok (.aload_n 0, 1) := by decide +kernel
theorem dX12_here_16 : decode cX12_here 16 = .ok (.getfield 132, 3) := by decide +kernel
theorem dX12_here_19 : decode cX12_here 19 = .ok (.aload_n 0, 1) := by decide +kernel
theorem dX12_here_20 : decode cX12_here 20 = .ok (.getfield 126, 3) := by decide +kernel
theorem dX12_here_23 : decode cX12_here 23 = .ok (.iadd, 1) := by decide +kernel
theorem dX12_here_24 : decode cX12_here 24 = .ok (.baload, 1) := by decide +kernel
theorem dX12_here_25 : decode cX12_here 25 = .ok (.sipush 255, 3) := by decide +kernel
theorem dX12_here_28 : decode cX12_here 28 = .ok (.iand, 1) := by decide +kernel
theorem dX12_here_29 : decode cX12_here 29 = .ok (.goto 4, 3) := by decide +kernel
theorem dX12_here_32 : decode cX12_here 32 = .ok (.iconst (-1), 1) := by decide +kernel
theorem dX12_here_33 : decode cX12_here 33 = .ok (.ireturn, 1) := by decide +kernel
theorem dX12_spotOf_0 : decode cX12_spotOf 0 = .ok (.iconst 0, 1) := by decide +kernel
theorem dX12_spotOf_1 : decode cX12_spotOf 1 = .ok (.istore_n 2, 1) := by decide +kernel
theorem dX12_spotOf_2 : decode cX12_spotOf 2 = .ok (.iload_n 2, 1) := by decide +kernel
theorem dX12_spotOf_3 : decode cX12_spotOf 3 = .ok (.aload_n 0, 1) := by decide +kernel
theorem dX12_spotOf_4 : decode cX12_spotOf 4 = .ok (.invokevirtual 106, 3) := by decide +kernel
theorem dX12_spotOf_7 : decode cX12_spotOf 7 = .ok (.if_icmp .ge 20, 3) := by decide +kernel
theorem dX12_spotOf_10 : decode cX12_spotOf 10 = .ok (.aload_n 0, 1) := by decide +kernel
theorem dX12_spotOf_11 : decode cX12_spotOf 11 = .ok (.iload_n 2, 1) := by decide +kernel
theorem dX12_spotOf_12 : decode cX12_spotOf 12 = .ok (.invokevirtual 112, 3) := by decide +kernel
theorem dX12_spotOf_15 : decode cX12_spotOf 15 = .ok (.iload_n 1, 1) := by decide +kernel
theorem dX12_spotOf_16 : decode cX12_spotOf 16 = .ok (.if_icmp .ne 5, 3) := by decide +kernel
theorem dX12_spotOf_19 : decode cX12_spotOf 19 = .ok (.iload_n 2, 1) := by decide +kernel
theorem dX12_spotOf_20 : decode cX12_spotOf 20 = .ok (.ireturn, 1) := by decide +kernel
theorem dX12_spotOf_21 : decode cX12_spotOf 21 = .ok (.iinc 2 1, 3) := by decide +kernel
theorem dX12_spotOf_24 : decode cX12_spotOf 24 = .ok (.goto (-22), 3) := by decide +kernel
theorem dX12_spotOf_27 : decode cX12_spotOf 27 = .ok (.iconst (-1), 1) := by decide +kernel
theorem dX12_spotOf_28 : decode cX12_spotOf 28 = .ok (.ireturn, 1) := by decide +kernel
theorem dX12_number_0 : decode cX12_number 0 = .ok (.aload_n 0, 1) := by decide +kernel
theorem dX12_number_1 : decode cX12_number 1 = .ok (.invokevirtual 145, 3) := by decide +kernel
theorem dX12_number_4 : decode cX12_number 4 = .ok (.istore_n 3, 1) := by decide +kernel
theorem dX12_number_5 : decode cX12_number 5 = .ok (.aload_n 0, 1) := by decide +kernel
theorem dX12_number_6 : decode cX12_number 6 = .ok (.invokevirtual 175, 3) := by decide +kernel
theorem dX12_number_9 : decode cX12_number 9 = .ok (.ifCond .ne 10, 3) := by decide +kernel
theorem dX12_number_12 : decode cX12_number 12 = .ok (.aload_n 0, 1) := by decide +kernel
theorem dX12_number_13 : decode cX12_number 13 = .ok (.invokevirtual 141, 3) := by decide +kernel
theorem dX12_number_16 : decode cX12_number 16 = .ok (.pop, 1) := by decide +kernel
theorem dX12_number_17 : decode cX12_number 17 = .ok (.iconst 0, 1) := by decide +kernel
theorem dX12_number_18 : decode cX12_number 18 = .ok (.ireturn, 1) := by decide +kernel
theorem dX12_number_19 : decode cX12_number 19 = .ok (.iload_n 3, 1) := by decide +kernel
theorem dX12_number_20 : decode cX12_number 20 = .ok (.bipush 48, 2) := by decide +kernel
theorem dX12_number_22 : decode cX12_number 22 = .ok (.isub, 1) := by decide +kernel
theorem dX12_number_23 : decode cX12_number 23 = .ok (.istore 4, 2) := by decide +kernel
theorem dX12_number_25 : decode cX12_number 25 = .ok (.aload_n 0, 1) := by decide +kernel
theorem dX12_number_26 : decode cX12_number 26 = .ok (.dup, 1) := by decide +kernel
theorem dX12_number_27 : decode cX12_number 27 = .ok (.getfield 126, 3) := by decide +kernel
theorem dX12_number_30 : decode cX12_number 30 = .ok (.iconst 1, 1) := by decide +kernel
theorem dX12_number_31 : decode cX12_number 31 = .ok (.iadd, 1) := by decide +kernel
theorem dX12_number_32 : decode cX12_number 32 = .ok (.putfield 126, 3) := by decide +kernel
theorem dX12_number_35 : decode cX12_number 35 = .ok (.aload_n 0, 1) := by decide +kernel
theorem dX12_number_36 : decode cX12_number 36 = .ok (.invokevirtual 175, 3) := by decide +kernel
theorem dX12_number_39 : decode cX12_number 39 = .ok (.ifCond .eq 28, 3) := by decide +kernel
theorem dX12_number_42 : decode cX12_number 42 = .ok (.bipush 10, 2) := by decide +kernel
theorem dX12_number_44 : decode cX12_number 44 = .ok (.iload 4, 2) := by decide +kernel
theorem dX12_number_46 : decode cX12_number 46 = .ok (.imul, 1) := by decide +kernel
theorem dX12_number_47 : decode cX12_number 47 = .ok (.aload_n 0, 1) := by decide +kernel
theorem dX12_number_48 : decode cX12_number 48 = .ok (.invokevirtual 221, 3) := by decide +kernel
theorem dX12_number_51 : decode cX12_number 51 = .ok (.iadd, 1) := by decide +kernel
theorem dX12_number_52 : decode cX12_number 52 = .ok (.bipush 48, 2) := by decide +kernel
theorem dX12_number_54 : decode cX12_number 54 = .ok (.isub, 1) := by decide +kernel
theorem dX12_number_55 : decode cX12_number 55 = .ok (.istore 4, 2) := by decide +kernel
theorem dX12_number_57 : decode cX12_number 57 = .ok (.aload_n 0, 1) := by decide +kernel
theorem dX12_number_58 : decode cX12_number 58 = .ok (.dup, 1) := by decide +kernel
theorem dX12_number_59 : decode cX12_number 59 = .ok (.getfield 126, 3) := by decide +kernel
theorem dX12_number_62 : decode cX12_number 62 = .ok (.iconst 1, 1) := by decide +kernel
theorem dX12_number_63 : decode cX12_number 63 = .ok (.iadd, 1) := by decide +kernel
theorem dX12_number_64 : decode cX12_number 64 = .ok (.putfield 126, 3) := by decide +kernel
theorem dX12_number_67 : decode cX12_number 67 = .ok (.aload_n 0, 1) := by decide +kernel
theorem dX12_number_68 : decode cX12_number 68 = .ok (.invokevirtual 175, 3) := by decide +kernel
theorem dX12_number_71 : decode cX12_number 71 = .ok (.ifCond .eq 10, 3) := by decide +kernel
theorem dX12_number_74 : decode cX12_number 74 = .ok (.aload_n 0, 1) := by decide +kernel
theorem dX12_number_75 : decode cX12_number 75 = .ok (.invokevirtual 141, 3) := by decide +kernel
theorem dX12_number_78 : decode cX12_number 78 = .ok (.pop, 1) := by decide +kernel
theorem dX12_number_79 : decode cX12_number 79 = .ok (.iconst 0, 1) := by decide +kernel
theorem dX12_number_80 : decode cX12_number 80 = .ok (.ireturn, 1) := by decide +kernel
theorem dX12_number_81 : decode cX12_number 81 = .ok (.iload 4, 2) := by decide +kernel
theorem dX12_number_83 : decode cX12_number 83 = .ok (.i2l, 1) := by decide +kernel
theorem dX12_number_84 : decode cX12_number 84 = .ok (.iload_n 1, 1) := by decide +kernel
theorem dX12_number_85 : decode cX12_number 85 = .ok (.i2l, 1) := by decide +kernel
theorem dX12_number_86 : decode cX12_number 86 = .ok (.iload_n 2, 1) := by decide +kernel
theorem dX12_number_87 : decode cX12_number 87 = .ok (.i2l, 1) := by decide +kernel
theorem dX12_number_88 : decode cX12_number 88 = .ok (.invokestatic 224, 3) := by decide +kernel
theorem dX12_number_91 : decode cX12_number 91 = .ok (.ifCond .ne 18, 3) := by decide +kernel
theorem dX12_number_94 : decode cX12_number 94 = .ok (.aload_n 0, 1) := by decide +kernel
theorem dX12_number_95 : decode cX12_number 95 = .ok (.dup, 1) := by decide +kernel
theorem dX12_number_96 : decode cX12_number 96 = .ok (.getfield 126, 3) := by decide +kernel
theorem dX12_number_99 : decode cX12_number 99 = .ok (.iconst 1, 1) := by decide +kernel
theorem dX12_number_100 : decode cX12_number 100 = .ok (.isub, 1) := by decide +kernel
theorem dX12_number_101 : decode cX12_number 101 = .ok (.putfield 126, 3) := by decide +kernel
theorem dX12_number_104 : decode cX12_number 104 = .ok (.aload_n 0, 1) := by decide +kernel
theorem dX12_number_105 : decode cX12_number 105 = .ok (.invokevirtual 141, 3) := by decide +kernel
theorem dX12_number_108 : decode cX12_number 108 = .ok (.pop, 1) := by decide +kernel
theorem dX12_number_109 : decode cX12_number 109 = .ok (.iload 4, 2) := by decide +kernel
theorem dX12_number_111 : decode cX12_number 111 = .ok (.ireturn, 1) := by decide +kernel
theorem dX12_mostOf_0 : decode cX12_mostOf 0 = .ok (.iload_n 0, 1) := by decide +kernel
theorem dX12_mostOf_1 : decode cX12_mostOf 1 = .ok (.bipush 115, 2) := by decide +kernel
theorem dX12_mostOf_3 : decode cX12_mostOf 3 = .ok (.if_icmp .ne 16, 3) := by decide +kernel
theorem dX12_mostOf_6 : decode cX12_mostOf 6 = .ok (.iload_n 1, 1) := by decide +kernel
theorem dX12_mostOf_7 : decode cX12_mostOf 7 = .ok (.iconst 2, 1) := by decide +kernel
theorem dX12_mostOf_8 : decode cX12_mostOf 8 = .ok (.if_icmp .ne 8, 3) := by decide +kernel
theorem dX12_mostOf_11 : decode cX12_mostOf 11 = .ok (.bipush 9, 2) := by decide +kernel
theorem dX12_mostOf_13 : decode cX12_mostOf 13 = .ok (.goto 5, 3) := by decide +kernel
theorem dX12_mostOf_16 : decode cX12_mostOf 16 = .ok (.bipush 60, 2) := by decide +kernel
theorem dX12_mostOf_18 : decode cX12_mostOf 18 = .ok (.ireturn, 1) := by decide +kernel
theorem dX12_mostOf_19 : decode cX12_mostOf 19 = .ok (.iload_n 1, 1) := by decide +kernel
theorem dX12_mostOf_20 : decode cX12_mostOf 20 = .ok (.iconst 2, 1) := by decide +kernel
theorem dX12_mostOf_21 : decode cX12_mostOf 21 = .ok (.if_icmp .ne 7, 3) := by decide +kernel
theorem dX12_mostOf_24 : decode cX12_mostOf 24 = .ok (.iconst 3, 1) := by decide +kernel
theorem dX12_mostOf_25 : decode cX12_mostOf 25 = .ok (.goto 15, 3) := by decide +kernel
theorem dX12_mostOf_28 : decode cX12_mostOf 28 = .ok (.iload_n 1, 1) := by decide +kernel
theorem dX12_mostOf_29 : decode cX12_mostOf 29 = .ok (.iconst 4, 1) := by decide +kernel
theorem dX12_mostOf_30 : decode cX12_mostOf 30 = .ok (.if_icmp .ne 8, 3) := by decide +kernel
theorem dX12_mostOf_33 : decode cX12_mostOf 33 = .ok (.bipush 30, 2) := by decide +kernel
theorem dX12_mostOf_35 : decode cX12_mostOf 35 = .ok (.goto 5, 3) := by decide +kernel
theorem dX12_mostOf_38 : decode cX12_mostOf 38 = .ok (.bipush 9, 2) := by decide +kernel
theorem dX12_mostOf_40 : decode cX12_mostOf 40 = .ok (.ireturn, 1) := by decide +kernel
theorem dX12_leastOf_0 : decode cX12_leastOf 0 = .ok (.iload_n 0, 1) := by decide +kernel
theorem dX12_leastOf_1 : decode cX12_leastOf 1 = .ok (.bipush 115, 2) := by decide +kernel
theorem dX12_leastOf_3 : decode cX12_leastOf 3 = .ok (.if_icmp .ne 12, 3) := by decide +kernel
theorem dX12_leastOf_6 : decode cX12_leastOf 6 = .ok (.iload_n 1, 1) := by decide +kernel
theorem dX12_leastOf_7 : decode cX12_leastOf 7 = .ok (.iconst 2, 1) := by decide +kernel
theorem dX12_leastOf_8 : decode cX12_leastOf 8 = .ok (.if_icmp .ge 7, 3) := by decide +kernel
theorem dX12_leastOf_11 : decode cX12_leastOf 11 = .ok (.iconst 1, 1) := by decide +kernel
theorem dX12_leastOf_12 : decode cX12_leastOf 12 = .ok (.goto 4, 3) := by decide +kernel
theorem dX12_leastOf_15 : decode cX12_leastOf 15 = .ok (.iconst 0, 1) := by decide +kernel
theorem dX12_leastOf_16 : decode cX12_leastOf 16 = .ok (.ireturn, 1) := by decide +kernel
theorem dX12_usual_0 : decode cX12_usual 0 = .ok (.iload_n 0, 1) := by decide +kernel
theorem dX12_usual_1 : decode cX12_usual 1 = .ok (.bipush 115, 2) := by decide +kernel
theorem dX12_usual_3 : decode cX12_usual 3 = .ok (.if_icmp .ne 24, 3) := by decide +kernel
theorem dX12_usual_6 : decode cX12_usual 6 = .ok (.iload_n 1, 1) := by decide +kernel
theorem dX12_usual_7 : decode cX12_usual 7 = .ok (.ifCond .ne 8, 3) := by decide +kernel
theorem dX12_usual_10 : decode cX12_usual 10 = .ok (.bipush 30, 2) := by decide +kernel
theorem dX12_usual_12 : decode cX12_usual 12 = .ok (.goto 14, 3) := by decide +kernel
theorem dX12_usual_15 : decode cX12_usual 15 = .ok (.iload_n 1, 1) := by decide +kernel
theorem dX12_usual_16 : decode cX12_usual 16 = .ok (.iconst 1, 1) := by decide +kernel
theorem dX12_usual_17 : decode cX12_usual 17 = .ok (.if_icmp .ne 8, 3) := by decide +kernel
theorem dX12_usual_20 : decode cX12_usual 20 = .ok (.bipush 40, 2) := by decide +kernel
theorem dX12_usual_22 : decode cX12_usual 22 = .ok (.goto 4, 3) := by decide +kernel
theorem dX12_usual_25 : decode cX12_usual 25 = .ok (.iconst 2, 1) := by decide +kernel
theorem dX12_usual_26 : decode cX12_usual 26 = .ok (.ireturn, 1) := by decide +kernel
theorem dX12_usual_27 : decode cX12_usual 27 = .ok (.iload_n 1, 1) := by decide +kernel
theorem dX12_usual_28 : decode cX12_usual 28 = .ok (.iconst 3, 1) := by decide +kernel
theorem dX12_usual_29 : decode cX12_usual 29 = .ok (.if_icmp .ne 7, 3) := by decide +kernel
theorem dX12_usual_32 : decode cX12_usual 32 = .ok (.iconst 3, 1) := by decide +kernel
theorem dX12_usual_33 : decode cX12_usual 33 = .ok (.goto 14, 3) := by decide +kernel
theorem dX12_usual_36 : decode cX12_usual 36 = .ok (.iload_n 1, 1) := by decide +kernel
theorem dX12_usual_37 : decode cX12_usual 37 = .ok (.iconst 4, 1) := by decide +kernel
theorem dX12_usual_38 : decode cX12_usual 38 = .ok (.if_icmp .ne 8, 3) := by decide +kernel
theorem dX12_usual_41 : decode cX12_usual 41 = .ok (.bipush 6, 2) := by decide +kernel
theorem dX12_usual_43 : decode cX12_usual 43 = .ok (.goto 4, 3) := by decide +kernel
theorem dX12_usual_46 : decode cX12_usual 46 = .ok (.iconst 0, 1) := by decide +kernel
theorem dX12_usual_47 : decode cX12_usual 47 = .ok (.ireturn, 1) := by decide +kernel
theorem dX12_readItems_0 : decode cX12_readItems 0 = .ok (.iconst 0, 1) := by decide +kernel
theorem dX12_readItems_1 : decode cX12_readItems 1 = .ok (.istore 5, 2) := by decide +kernel
theorem dX12_readItems_3 : decode cX12_readItems 3 = .ok (.iload 5, 2) := by decide +kernel
theorem dX12_readItems_5 : decode cX12_readItems 5 = .ok (.aload 4, 2) := by decide +kernel
theorem dX12_readItems_7 : decode cX12_readItems 7 = .ok (.invokevirtual 106, 3) := by decide +kernel
theorem dX12_readItems_10 : decode cX12_readItems 10 = .ok (.if_icmp .ge 21, 3) := by decide +kernel
theorem dX12_readItems_13 : decode cX12_readItems 13 = .ok (.aload_n 2, 1) := by decide +kernel
theorem dX12_readItems_14 : decode cX12_readItems 14 = .ok (.iload_n 3, 1) := by decide +kernel
theorem dX12_readItems_15 : decode cX12_readItems 15 = .ok (.iload 5, 2) := by decide +kernel
theorem dX12_readItems_17 : decode cX12_readItems 17 = .ok (.iadd, 1) := by decide +kernel
theorem dX12_readItems_18 : decode cX12_readItems 18 = .ok (.iload_n 1, 1) := by decide +kernel
theorem dX12_readItems_19 : decode cX12_readItems 19 = .ok (.iload 5, 2) := by decide +kernel
theorem dX12_readItems_21 : decode cX12_readItems 21 = .ok (.invokestatic 228, 3) := by decide +kernel
theorem dX12_readItems_24 : decode cX12_readItems 24 = .ok (.iastore, 1) := by decide +kernel
theorem dX12_readItems_25 : decode cX12_readItems 25 = .ok (.iinc 5 1, 3) := by decide +kernel
theorem dX12_readItems_28 : decode cX12_readItems 28 = .ok (.goto (-25), 3) := by decide +kernel
theorem dX12_readItems_31 : decode cX12_readItems 31 = .ok (.iconst 0, 1) := by decide +kernel
theorem dX12_readItems_32 : decode cX12_readItems 32 = .ok (.istore 5, 2) := by decide +kernel
theorem dX12_readItems_34 : decode cX12_readItems 34 = .ok (.aload 4, 2) := by decide +kernel
theorem dX12_readItems_36 : decode cX12_readItems 36 = .ok (.aload_n 0, 1) := by decide +kernel
theorem dX12_readItems_37 : decode cX12_readItems 37 = .ok (.invokevirtual 145, 3) := by decide +kernel
theorem dX12_readItems_40 : decode cX12_readItems 40 = .ok (.invokestatic 232, 3) := by decide +kernel
theorem dX12_readItems_43 : decode cX12_readItems 43 = .ok (.istore 6, 2) := by decide +kernel
theorem dX12_readItems_45 : decode cX12_readItems 45 = .ok (.iload 6, 2) := by decide +kernel
theorem dX12_readItems_47 : decode cX12_readItems 47 = .ok (.iconst (-1), 1) := by decide +kernel
theorem dX12_readItems_48 : decode cX12_readItems 48 = .ok (.if_icmp .eq 90, 3) := by decide +kernel
theorem dX12_readItems_51 : decode cX12_readItems 51 = .ok (.aload_n 0, 1) := by decide +kernel
theorem dX12_readItems_52 : decode cX12_readItems 52 = .ok (.getfield 135, 3) := by decide +kernel
theorem dX12_readItems_55 : decode cX12_readItems 55 = .ok (.iconst (-1), 1) := by decide +kernel
theorem dX12_readItems_56 : decode cX12_readItems 56 = .ok (.if_icmp .ne 82, 3) := by decide +kernel
theorem dX12_readItems_59 : decode cX12_readItems 59 = .ok (.iload 5, 2) := by decide +kernel
theorem dX12_readItems_61 : decode cX12_readItems 61 = .ok (.iload 6, 2) := by decide +kernel
theorem dX12_readItems_63 : decode cX12_readItems 63 = .ok (.invokestatic 236, 3) := by decide +kernel
theorem dX12_readItems_66 : decode cX12_readItems 66 = .ok (.ifCond .eq 9, 3) := by decide +kernel
theorem dX12_readItems_69 : decode cX12_readItems 69 = .ok (.aload_n 0, 1) := by decide +kernel
theorem dX12_readItems_70 : decode cX12_readItems 70 = .ok (.invokevirtual 141, 3) := by decide +kernel
theorem dX12_readItems_73 : decode cX12_readItems 73 = .ok (.pop, 1) := by decide +kernel
theorem dX12_readItems_74 : decode cX12_readItems 74 = .ok (.return_, 1) := by decide +kernel
theorem dX12_readItems_75 : decode cX12_readItems 75 = .ok (.iload 5, 2) := by decide +kernel
theorem dX12_readItems_77 : decode cX12_readItems 77 = .ok (.iconst 1, 1) := by decide +kernel
theorem dX12_readItems_78 : decode cX12_readItems 78 = .ok (.iload 6, 2) := by decide +kernel
theorem dX12_readItems_80 : decode cX12_readItems 80 = .ok (.ishl, 1) := by decide +kernel
theorem dX12_readItems_81 : decode cX12_readItems 81 = .ok (.ior, 1) := by decide +kernel
theorem dX12_readItems_82 : decode cX12_readItems 82 = .ok (.istore 5, 2) := by decide +kernel
theorem dX12_readItems_84 : decode cX12_readItems 84 = .ok (.aload_n 0, 1) := by decide +kernel
theorem dX12_readItems_85 : decode cX12_readItems 85 = .ok (.dup, 1) := by decide +kernel
theorem dX12_readItems_86 : decode cX12_readItems 86 = .ok (.getfield 126, 3) := by decide +kernel
theorem dX12_readItems_89 : decode cX12_readItems 89 = .ok (.iconst 1, 1) := by decide +kernel
theorem dX12_readItems_90 : decode cX12_readItems 90 = .ok (.iadd, 1) := by decide +kernel
theorem dX12_readItems_91 : decode cX12_readItems 91 = .ok (.putfield 126, 3) := by decide +kernel
theorem dX12_readItems_94 : decode cX12_readItems 94 = .ok (.aload_n 2, 1) := by decide +kernel
theorem dX12_readItems_95 : decode cX12_readItems 95 = .ok (.iload_n 3, 1) := by decide +kernel
theorem dX12_readItems_96 : decode cX12_readItems 96 = .ok (.iload 6, 2) := by decide +kernel
theorem dX12_readItems_98 : decode cX12_readItems 98 = .ok (.iadd, 1) := by decide +kernel
theorem dX12_readItems_99 : decode cX12_readItems 99 = .ok (.aload_n 0, 1) := by decide +kernel
theorem dX12_readItems_100 : decode cX12_readItems 100 = .ok (.iload_n 1, 1) := by decide +kernel
theorem dX12_readItems_101 : decode cX12_readItems 101 = .ok (.iload 6, 2) := by decide +kernel
theorem dX12_readItems_103 : decode cX12_readItems 103 = .ok (.invokestatic 240, 3) := by decide +kernel
theorem dX12_readItems_106 : decode cX12_readItems 106 = .ok (.iload_n 1, 1) := by decide +kernel
theorem dX12_readItems_107 : decode cX12_readItems 107 = .ok (.iload 6, 2) := by decide +kernel
theorem dX12_readItems_109 : decode cX12_readItems 109 = .ok (.invokestatic 243, 3) := by decide +kernel
theorem dX12_readItems_112 : decode cX12_readItems 112 = .ok (.invokevirtual 246, 3) := by decide +kernel
theorem dX12_readItems_115 : decode cX12_readItems 115 = .ok (.iastore, 1) := by decide +kernel
theorem dX12_readItems_116 : decode cX12_readItems 116 = .ok (.aload_n 0, 1) := by decide +kernel
theorem dX12_readItems_117 : decode cX12_readItems 117 = .ok (.getfield 135, 3) := by decide +kernel
theorem dX12_readItems_120 : decode cX12_readItems 120 = .ok (.iconst (-1), 1) := by decide +kernel
theorem dX12_readItems_121 : decode cX12_readItems 121 = .ok (.if_icmp .ne (-76), 3) := by decide +kernel
theorem dX12_readItems_124 : decode cX12_readItems 124 = .ok (.aload 4, 2) := by decide +kernel
theorem dX12_readItems_126 : decode cX12_readItems 126 = .ok (.aload_n 0, 1) := by decide +kernel
theorem dX12_readItems_127 : decode cX12_readItems 127 = .ok (.invokevirtual 145, 3) := by decide +kernel
theorem dX12_readItems_130 : decode cX12_readItems 130 = .ok (.invokestatic 232, 3) := by decide +kernel
theorem dX12_readItems_133 : decode cX12_readItems 133 = .ok (.istore 6, 2) := by decide +kernel
theorem dX12_readItems_135 : decode cX12_readItems 135 = .ok (.goto (-90), 3) := by decide +kernel
theorem dX12_readItems_138 : decode cX12_readItems 138 = .ok (.return_, 1) := by decide +kernel
theorem dX12_readClause_0 : decode cX12_readClause 0 = .ok (.aload_n 0, 1) := by decide +kernel
theorem dX12_readClause_1 : decode cX12_readClause 1 = .ok (.invokevirtual 145, 3) := by decide +kernel
theorem dX12_readClause_4 : decode cX12_readClause 4 = .ok (.istore_n 1, 1) := by decide +kernel
theorem dX12_readClause_5 : decode cX12_readClause 5 = .ok (.iload_n 1, 1) := by decide +kernel
theorem dX12_readClause_6 : decode cX12_readClause 6 = .ok (.bipush 115, 2) := by decide +kernel
theorem dX12_readClause_8 : decode cX12_readClause 8 = .ok (.if_icmp .ne 10, 3) := by decide +kernel
theorem dX12_readClause_11 : decode cX12_readClause 11 = .ok (.aload_n 0, 1) := by decide +kernel
theorem dX12_readClause_12 : decode cX12_readClause 12 = .ok (.getfield 249, 3) := by decide +kernel
theorem dX12_readClause_15 : decode cX12_readClause 15 = .ok (.ifCond .eq 18, 3) := by decide +kernel
theorem dX12_readClause_18 : decode cX12_readClause 18 = .ok (.iload_n 1, 1) := by decide +kernel
theorem dX12_readClause_19 : decode cX12_readClause 19 = .ok (.bipush 112, 2) := by decide +kernel
theorem dX12_readClause_21 : decode cX12_readClause 21 = .ok (.if_icmp .ne 16, 3) := by decide +kernel
theorem dX12_readClause_24 : decode cX12_readClause 24 = .ok (.aload_n 0, 1) := by decide +kernel
theorem dX12_readClause_25 : decode cX12_readClause 25 = .ok (.getfield 252, 3) := by decide +kernel
theorem dX12_readClause_28 : decode cX12_readClause 28 = .ok (.bipush 7, 2) := by decide +kernel
theorem dX12_readClause_30 : decode cX12_readClause 30 = .ok (.if_icmp .ge 7, 3) := by decide +kernel
theorem dX12_readClause_33 : decode cX12_readClause 33 = .ok (.iconst 1, 1) := by decide +kernel
theorem dX12_readClause_34 : decode cX12_readClause 34 = .ok (.goto 4, 3) := by decide +kernel
theorem dX12_readClause_37 : decode cX12_readClause 37 = .ok (.iconst 0, 1) := by decide +kernel
theorem dX12_readClause_38 : decode cX12_readClause 38 = .ok (.istore_n 2, 1) := by decide +kernel
theorem dX12_readClause_39 : decode cX12_readClause 39 = .ok (.iload_n 2, 1) := by decide +kernel
theorem dX12_readClause_40 : decode cX12_readClause 40 = .ok (.ifCond .ne 9, 3) := by decide +kernel
theorem dX12_readClause_43 : decode cX12_readClause 43 = .ok (.aload_n 0, 1) := by decide +kernel
theorem dX12_readClause_44 : decode cX12_readClause 44 = .ok (.invokevirtual 141, 3) := by decide +kernel
theorem dX12_readClause_47 : decode cX12_readClause 47 = .ok (.pop, 1) := by decide +kernel
theorem dX12_readClause_48 : decode cX12_readClause 48 = .ok (.return_, 1) := by decide +kernel
theorem dX12_readClause_49 : decode cX12_readClause 49 = .ok (.aload_n 0, 1) := by decide +kernel
theorem dX12_readClause_50 : decode cX12_readClause 50 = .ok (.dup, 1) := by decide +kernel
theorem dX12_readClause_51 : decode cX12_readClause 51 = .ok (.getfield 126, 3) := by decide +kernel
theorem dX12_readClause_54 : decode cX12_readClause 54 = .ok (.iconst 1, 1) := by decide +kernel
theorem dX12_readClause_55 : decode cX12_readClause 55 = .ok (.iadd, 1) := by decide +kernel
theorem dX12_readClause_56 : decode cX12_readClause 56 = .ok (.putfield 126, 3) := by decide +kernel
theorem dX12_readClause_59 : decode cX12_readClause 59 = .ok (.iload_n 1, 1) := by decide +kernel
theorem dX12_readClause_60 : decode cX12_readClause 60 = .ok (.bipush 115, 2) := by decide +kernel
theorem dX12_readClause_62 : decode cX12_readClause 62 = .ok (.if_icmp .ne 23, 3) := by decide +kernel
theorem dX12_readClause_65 : decode cX12_readClause 65 = .ok (.aload_n 0, 1) := by decide +kernel
theorem dX12_readClause_66 : decode cX12_readClause 66 = .ok (.iconst 1, 1) := by decide +kernel
theorem dX12_readClause_67 : decode cX12_readClause 67 = .ok (.putfield 249, 3) := by decide +kernel
theorem dX12_readClause_70 : decode cX12_readClause 70 = .ok (.aload_n 0, 1) := by decide +kernel
theorem dX12_readClause_71 : decode cX12_readClause 71 = .ok (.iload_n 1, 1) := by decide +kernel
theorem dX12_readClause_72 : decode cX12_readClause 72 = .ok (.aload_n 0, 1) := by decide +kernel
theorem dX12_readClause_73 : decode cX12_readClause 73 = .ok (.getfield 40, 3) := by decide +kernel
theorem dX12_readClause_76 : decode cX12_readClause 76 = .ok (.iconst 0, 1) := by decide +kernel
theorem dX12_readClause_77 : decode cX12_readClause 77 = .ok (.ldc 255, 2) := by decide +kernel
theorem dX12_readClause_79 : decode cX12_readClause 79 = .ok (.invokevirtual 257, 3) := by decide +kernel
theorem dX12_readClause_82 : decode cX12_readClause 82 = .ok (.goto 33, 3) := by decide +kernel
theorem dX12_readClause_85 : decode cX12_readClause 85 = .ok (.aload_n 0, 1) := by decide +kernel
theorem dX12_readClause_86 : decode cX12_readClause 86 = .ok (.dup, 1) := by decide +kernel
theorem dX12_readClause_87 : decode cX12_readClause 87 = .ok (.getfield 252, 3) := by decide +kernel
theorem dX12_readClause_90 : decode cX12_readClause 90 = .ok (.iconst 1, 1) := by decide +kernel
theorem dX12_readClause_91 : decode cX12_readClause 91 = .ok (.iadd, 1) := by decide +kernel
theorem dX12_readClause_92 : decode cX12_readClause 92 = .ok (.putfield 252, 3) := by decide +kernel
theorem dX12_readClause_95 : decode cX12_readClause 95 = .ok (.aload_n 0, 1) := by decide +kernel
theorem dX12_readClause_96 : decode cX12_readClause 96 = .ok (.iload_n 1, 1) := by decide +kernel
theorem dX12_readClause_97 : decode cX12_readClause 97 = .ok (.aload_n 0, 1) := by decide +kernel
theorem dX12_readClause_98 : decode cX12_readClause 98 = .ok (.getfield 46, 3) := by decide +kernel
theorem dX12_readClause_101 : decode cX12_readClause 101 = .ok (.iconst 5, 1) := by decide +kernel
theorem dX12_readClause_102 : decode cX12_readClause 102 = .ok (.aload_n 0, 1) := by decide +kernel
theorem dX12_readClause_103 : decode cX12_readClause 103 = .ok (.getfield 252, 3) := by decide +kernel
theorem dX12_readClause_106 : decode cX12_readClause 106 = .ok (.iconst 1, 1) := by decide +kernel
theorem dX12_readClause_107 : decode cX12_readClause 107 = .ok (.isub, 1) := by decide +kernel
theorem dX12_readClause_108 : decode cX12_readClause 108 = .ok (.imul, 1) := by decide +kernel
theorem dX12_readClause_109 : decode cX12_readClause 109 = .ok (.ldc_w 261, 3) := by decide +kernel
theorem dX12_readClause_112 : decode cX12_readClause 112 = .ok (.invokevirtual 257, 3) := by decide +kernel
theorem dX12_readClause_115 : decode cX12_readClause 115 = .ok (.return_, 1) := by decide +kernel
theorem dX12_isWhole_0 : decode cX12_isWhole 0 = .ok (.iconst 0, 1) := by decide +kernel
theorem dX12_isWhole_1 : decode cX12_isWhole 1 = .ok (.istore_n 1, 1) := by decide +kernel
theorem dX12_isWhole_2 : decode cX12_isWhole 2 = .ok (.iload_n 1, 1) := by decide +kernel
theorem dX12_isWhole_3 : decode cX12_isWhole 3 = .ok (.aload_n 0, 1) := by decide +kernel
theorem dX12_isWhole_4 : decode cX12_isWhole 4 = .ok (.getfield 252, 3) := by decide +kernel
theorem dX12_isWhole_7 : decode cX12_isWhole 7 = .ok (.if_icmp .ge 66, 3) := by decide +kernel
theorem dX12_isWhole_10 : decode cX12_isWhole 10 = .ok (.iconst 0, 1) := by decide +kernel
theorem dX12_isWhole_11 : decode cX12_isWhole 11 = .ok (.istore_n 2, 1) := by decide +kernel
theorem dX12_isWhole_12 : decode cX12_isWhole 12 = .ok (.iload_n 2, 1) := by decide +kernel
theorem dX12_isWhole_13 : decode cX12_isWhole 13 = .ok (.iload_n 1, 1) := by decide +kernel
theorem dX12_isWhole_14 : decode cX12_isWhole 14 = .ok (.if_icmp .ge 53, 3) := by decide +kernel
theorem dX12_isWhole_17 : decode cX12_isWhole 17 = .ok (.aload_n 0, 1) := by decide +kernel
theorem dX12_isWhole_18 : decode cX12_isWhole 18 = .ok (.getfield 46, 3) := by decide +kernel
theorem dX12_isWhole_21 : decode cX12_isWhole 21 = .ok (.iconst 5, 1) := by decide +kernel
theorem dX12_isWhole_22 : decode cX12_isWhole 22 = .ok (.iload_n 1, 1) := by decide +kernel
theorem dX12_isWhole_23 : decode cX12_isWhole 23 = .ok (.imul, 1) := by decide +kernel
theorem dX12_isWhole_24 : decode cX12_isWhole 24 = .ok (.iaload, 1) := by decide +kernel
theorem dX12_isWhole_25 : decode cX12_isWhole 25 = .ok (.aload_n 0, 1) := by decide +kernel
theorem dX12_isWhole_26 : decode cX12_isWhole 26 = .ok (.getfield 46, 3) := by decide +kernel
theorem dX12_isWhole_29 : decode cX12_isWhole 29 = .ok (.iconst 5, 1) := by decide +kernel
theorem dX12_isWhole_30 : decode cX12_isWhole 30 = .ok (.iload_n 2, 1) := by decide +kernel
theorem dX12_isWhole_31 : decode cX12_isWhole 31 = .ok (.imul, 1) := by decide +kernel
theorem dX12_isWhole_32 : decode cX12_isWhole 32 = .ok (.iaload, 1) := by decide +kernel
theorem dX12_isWhole_33 : decode cX12_isWhole 33 = .ok (.if_icmp .ne 28, 3) := by decide +kernel
theorem dX12_isWhole_36 : decode cX12_isWhole 36 = .ok (.aload_n 0, 1) := by decide +kernel
theorem dX12_isWhole_37 : decode cX12_isWhole 37 = .ok (.getfield 46, 3) := by decide +kernel
theorem dX12_isWhole_40 : decode cX12_isWhole 40 = .ok (.iconst 5, 1) := by decide +kernel
theorem dX12_isWhole_41 : decode cX12_isWhole 41 = .ok (.iload_n 1, 1) := by decide +kernel
theorem dX12_isWhole_42 : decode cX12_isWhole 42 = .ok (.imul, 1) := by decide +kernel
theorem dX12_isWhole_43 : decode cX12_isWhole 43 = .ok (.iconst 1, 1) := by decide +kernel
theorem dX12_isWhole_44 : decode cX12_isWhole 44 = .ok (.iadd, 1) := by decide +kernel
theorem dX12_isWhole_45 : decode cX12_isWhole 45 = .ok (.iaload, 1) := by decide +kernel
theorem dX12_isWhole_46 : decode cX12_isWhole 46 = .ok (.aload_n 0, 1) := by decide +kernel
theorem dX12_isWhole_47 : decode cX12_isWhole 47 = .ok (.getfield 46, 3) := by decide +kernel
theorem dX12_isWhole_50 : decode cX12_isWhole 50 = .ok (.iconst 5, 1) := by decide +kernel
theorem dX12_isWhole_51 : decode cX12_isWhole 51 = .ok (.iload_n 2, 1) := by decide +kernel
theorem dX12_isWhole_52 : decode cX12_isWhole 52 = .ok (.imul, 1) := by decide +kernel
theorem dX12_isWhole_53 : decode cX12_isWhole 53 = .ok (.iconst 1, 1) := by decide +kernel
theorem dX12_isWhole_54 : decode cX12_isWhole 54 = .ok (.iadd, 1) := by decide +kernel
theorem dX12_isWhole_55 : decode cX12_isWhole 55 = .ok (.iaload, 1) := by decide +kernel
theorem dX12_isWhole_56 : decode cX12_isWhole 56 = .ok (.if_icmp .ne 5, 3) := by decide +kernel
theorem dX12_isWhole_59 : decode cX12_isWhole 59 = .ok (.iconst 0, 1) := by decide +kernel
theorem dX12_isWhole_60 : decode cX12_isWhole 60 = .ok (.ireturn, 1) := by decide +kernel
theorem dX12_isWhole_61 : decode cX12_isWhole 61 = .ok (.iinc 2 1, 3) := by decide +kernel
theorem dX12_isWhole_64 : decode cX12_isWhole 64 = .ok (.goto (-52), 3) := by decide +kernel
theorem dX12_isWhole_67 : decode cX12_isWhole 67 = .ok (.iinc 1 1, 3) := by decide +kernel
theorem dX12_isWhole_70 : decode cX12_isWhole 70 = .ok (.goto (-68), 3) := by decide +kernel
theorem dX12_isWhole_73 : decode cX12_isWhole 73 = .ok (.aload_n 0, 1) := by decide +kernel
theorem dX12_isWhole_74 : decode cX12_isWhole 74 = .ok (.getfield 252, 3) := by decide +kernel
theorem dX12_isWhole_77 : decode cX12_isWhole 77 = .ok (.iconst 1, 1) := by decide +kernel
theorem dX12_isWhole_78 : decode cX12_isWhole 78 = .ok (.if_icmp .le 7, 3) := by decide +kernel
theorem dX12_isWhole_81 : decode cX12_isWhole 81 = .ok (.iconst 1, 1) := by decide +kernel
theorem dX12_isWhole_82 : decode cX12_isWhole 82 = .ok (.goto 4, 3) := by decide +kernel
theorem dX12_isWhole_85 : decode cX12_isWhole 85 = .ok (.iconst 0, 1) := by decide +kernel
theorem dX12_isWhole_86 : decode cX12_isWhole 86 = .ok (.ireturn, 1) := by decide +kernel
theorem dX12_readCity_0 : decode cX12_readCity 0 = .ok (.aload_n 0, 1) := by decide +kernel
theorem dX12_readCity_1 : decode cX12_readCity 1 = .ok (.aload_n 0, 1) := by decide +kernel
theorem dX12_readCity_2 : decode cX12_readCity 2 = .ok (.getfield 9, 3) := by decide +kernel
theorem dX12_readCity_5 : decode cX12_readCity 5 = .ok (.iconst 0, 1) := by decide +kernel
theorem dX12_readCity_6 : decode cX12_readCity 6 = .ok (.aload_n 0, 1) := by decide +kernel
theorem dX12_readCity_7 : decode cX12_readCity 7 = .ok (.getfield 116, 3) := by decide +kernel
theorem dX12_readCity_10 : decode cX12_readCity 10 = .ok (.invokevirtual 214, 3) := by decide +kernel
theorem dX12_readCity_13 : decode cX12_readCity 13 = .ok (.aload_n 0, 1) := by decide +kernel
theorem dX12_readCity_14 : decode cX12_readCity 14 = .ok (.iconst 0, 1) := by decide +kernel
theorem dX12_readCity_15 : decode cX12_readCity 15 = .ok (.putfield 252, 3) := by decide +kernel
theorem dX12_readCity_18 : decode cX12_readCity 18 = .ok (.aload_n 0, 1) := by decide +kernel
theorem dX12_readCity_19 : decode cX12_readCity 19 = .ok (.iconst 0, 1) := by decide +kernel
theorem dX12_readCity_20 : decode cX12_readCity 20 = .ok (.putfield 249, 3) := by decide +kernel
theorem dX12_readCity_23 : decode cX12_readCity 23 = .ok (.iconst 0, 1) := by decide +kernel
theorem dX12_readCity_24 : decode cX12_readCity 24 = .ok (.istore_n 1, 1) := by decide +kernel
theorem dX12_readCity_25 : decode cX12_readCity 25 = .ok (.iload_n 1, 1) := by decide +kernel
theorem dX12_readCity_26 : decode cX12_readCity 26 = .ok (.iconst 3, 1) := by decide +kernel
theorem dX12_readCity_27 : decode cX12_readCity 27 = .ok (.if_icmp .ge 21, 3) := by decide +kernel
theorem dX12_readCity_30 : decode cX12_readCity 30 = .ok (.aload_n 0, 1) := by decide +kernel
theorem dX12_readCity_31 : decode cX12_readCity 31 = .ok (.getfield 40, 3) := by decide +kernel
theorem dX12_readCity_34 : decode cX12_readCity 34 = .ok (.iload_n 1, 1) := by decide +kernel
theorem dX12_readCity_35 : decode cX12_readCity 35 = .ok (.bipush 115, 2) := by decide +kernel
theorem dX12_readCity_37 : decode cX12_readCity 37 = .ok (.iload_n 1, 1) := by decide +kernel
theorem dX12_readCity_38 : decode cX12_readCity 38 = .ok (.invokestatic 228, 3) := by decide +kernel
theorem dX12_readCity_41 : decode cX12_readCity 41 = .ok (.iastore, 1) := by decide +kernel
theorem dX12_readCity_42 : decode cX12_readCity 42 = .ok (.iinc 1 1, 3) := by decide +kernel
theorem dX12_readCity_45 : decode cX12_readCity 45 = .ok (.goto (-20), 3) := by decide +kernel
theorem dX12_readCity_48 : decode cX12_readCity 48 = .ok (.iconst 1, 1) := by decide +kernel
theorem dX12_readCity_49 : decode cX12_readCity 49 = .ok (.istore_n 1, 1) := by decide +kernel
theorem dX12_readCity_50 : decode cX12_readCity 50 = .ok (.iload_n 1, 1) := by decide +kernel
theorem dX12_readCity_51 : decode cX12_readCity 51 = .ok (.ifCond .eq 55, 3) := by decide +kernel
theorem dX12_readCity_54 : decode cX12_readCity 54 = .ok (.aload_n 0, 1) := by decide +kernel
theorem dX12_readCity_55 : decode cX12_readCity 55 = .ok (.getfield 135, 3) := by decide +kernel
theorem dX12_readCity_58 : decode cX12_readCity 58 = .ok (.iconst (-1), 1) := by decide +kernel
theorem dX12_readCity_59 : decode cX12_readCity 59 = .ok (.if_icmp .ne 47, 3) := by decide +kernel
theorem dX12_readCity_62 : decode cX12_readCity 62 = .ok (.aload_n 0, 1) := by decide +kernel
theorem dX12_readCity_63 : decode cX12_readCity 63 = .ok (.invokevirtual 263, 3) := by decide +kernel
theorem dX12_readCity_66 : decode cX12_readCity 66 = .ok (.aload_n 0, 1) := by decide +kernel
theorem dX12_readCity_67 : decode cX12_readCity 67 = .ok (.getfield 135, 3) := by decide +kernel
theorem dX12_readCity_70 : decode cX12_readCity 70 = .ok (.iconst (-1), 1) := by decide +kernel
theorem dX12_readCity_71 : decode cX12_readCity 71 = .ok (.if_icmp .ne 16, 3) := by decide +kernel
theorem dX12_readCity_74 : decode cX12_readCity 74 = .ok (.aload_n 0, 1) := by decide +kernel
theorem dX12_readCity_75 : decode cX12_readCity 75 = .ok (.invokevirtual 145, 3) := by decide +kernel
theorem dX12_readCity_78 : decode cX12_readCity 78 = .ok (.bipush 59, 2) := by decide +kernel
theorem dX12_readCity_80 : decode cX12_readCity 80 = .ok (.if_icmp .ne 7, 3) := by decide +kernel
theorem dX12_readCity_83 : decode cX12_readCity 83 = .ok (.iconst 1, 1) := by decide +kernel
theorem dX12_readCity_84 : decode cX12_readCity 84 = .ok (.goto 4, 3) := by decide +kernel
theorem dX12_readCity_87 : decode cX12_readCity 87 = .ok (.iconst 0, 1) := by decide +kernel
theorem dX12_readCity_88 : decode cX12_readCity 88 = .ok (.istore_n 1, 1) := by decide +kernel
theorem dX12_readCity_89 : decode cX12_readCity 89 = .ok (.iload_n 1, 1) := by decide +kernel
theorem dX12_readCity_90 : decode cX12_readCity 90 = .ok (.ifCond .eq (-40), 3) := by decide +kernel
theorem dX12_readCity_93 : decode cX12_readCity 93 = .ok (.aload_n 0, 1) := by decide +kernel
theorem dX12_readCity_94 : decode cX12_readCity 94 = .ok (.dup, 1) := by decide +kernel
theorem dX12_readCity_95 : decode cX12_readCity 95 = .ok (.getfield 126, 3) := by decide +kernel
theorem dX12_readCity_98 : decode cX12_readCity 98 = .ok (.iconst 1, 1) := by decide +kernel
theorem dX12_readCity_99 : decode cX12_readCity 99 = .ok (.iadd, 1) := by decide +kernel
theorem dX12_readCity_100 : decode cX12_readCity 100 = .ok (.putfield 126, 3) := by decide +kernel
theorem dX12_readCity_103 : decode cX12_readCity 103 = .ok (.goto (-53), 3) := by decide +kernel
theorem dX12_readCity_106 : decode cX12_readCity 106 = .ok (.aload_n 0, 1) := by decide +kernel
theorem dX12_readCity_107 : decode cX12_readCity 107 = .ok (.getfield 135, 3) := by decide +kernel
theorem dX12_readCity_110 : decode cX12_readCity 110 = .ok (.iconst (-1), 1) := by decide +kernel
theorem dX12_readCity_111 : decode cX12_readCity 111 = .ok (.if_icmp .ne 23, 3) := by decide +kernel
theorem dX12_readCity_114 : decode cX12_readCity 114 = .ok (.aload_n 0, 1) := by decide +kernel
theorem dX12_readCity_115 : decode cX12_readCity 115 = .ok (.invokevirtual 145, 3) := by decide +kernel
theorem dX12_readCity_118 : decode cX12_readCity 118 = .ok (.iconst (-1), 1) := by decide +kernel
theorem dX12_readCity_119 : decode cX12_readCity 119 = .ok (.if_icmp .ne 10, 3) := by decide +kernel
theorem dX12_readCity_122 : decode cX12_readCity 122 = .ok (.aload_n 0, 1) := by decide +kernel
theorem dX12_readCity_123 : decode cX12_readCity 123 = .ok (.invokevirtual 266, 3) := by decide +kernel
theorem dX12_readCity_126 : decode cX12_readCity 126 = .ok (.ifCond .ne 8, 3) := by decide +kernel
theorem dX12_readCity_129 : decode cX12_readCity 129 = .ok (.aload_n 0, 1) := by decide +kernel
theorem dX12_readCity_130 : decode cX12_readCity 130 = .ok (.invokevirtual 141, 3) := by decide +kernel
theorem dX12_readCity_133 : decode cX12_readCity 133 = .ok (.pop, 1) := by decide +kernel
theorem dX12_readCity_134 : decode cX12_readCity 134 = .ok (.return_, 1) := by decide +kernel
theorem dX12_readStep_0 : decode cX12_readStep 0 = .ok (.ldc_w 269, 3) := by decide +kernel
theorem dX12_readStep_3 : decode cX12_readStep 3 = .ok (.aload_n 0, 1) := by decide +kernel
theorem dX12_readStep_4 : decode cX12_readStep 4 = .ok (.invokevirtual 145, 3) := by decide +kernel
theorem dX12_readStep_7 : decode cX12_readStep 7 = .ok (.invokestatic 232, 3) := by decide +kernel
theorem dX12_readStep_10 : decode cX12_readStep 10 = .ok (.istore_n 2, 1) := by decide +kernel
theorem dX12_readStep_11 : decode cX12_readStep 11 = .ok (.iload_n 2, 1) := by decide +kernel
theorem dX12_readStep_12 : decode cX12_readStep 12 = .ok (.iconst (-1), 1) := by decide +kernel
theorem dX12_readStep_13 : decode cX12_readStep 13 = .ok (.if_icmp .ne 9, 3) := by decide +kernel
theorem dX12_readStep_16 : decode cX12_readStep 16 = .ok (.aload_n 0, 1) := by decide +kernel
theorem dX12_readStep_17 : decode cX12_readStep 17 = .ok (.invokevirtual 141, 3) := by decide +kernel
theorem dX12_readStep_20 : decode cX12_readStep 20 = .ok (.pop, 1) := by decide +kernel
theorem dX12_readStep_21 : decode cX12_readStep 21 = .ok (.return_, 1) := by decide +kernel
theorem dX12_readStep_22 : decode cX12_readStep 22 = .ok (.aload_n 0, 1) := by decide +kernel
theorem dX12_readStep_23 : decode cX12_readStep 23 = .ok (.dup, 1) := by decide +kernel
theorem dX12_readStep_24 : decode cX12_readStep 24 = .ok (.getfield 126, 3) := by decide +kernel
theorem dX12_readStep_27 : decode cX12_readStep 27 = .ok (.iconst 1, 1) := by decide +kernel
theorem dX12_readStep_28 : decode cX12_readStep 28 = .ok (.iadd, 1) := by decide +kernel
theorem dX12_readStep_29 : decode cX12_readStep 29 = .ok (.putfield 126, 3) := by decide +kernel
theorem dX12_readStep_32 : decode cX12_readStep 32 = .ok (.aload_n 0, 1) := by decide +kernel
theorem dX12_readStep_33 : decode cX12_readStep 33 = .ok (.getfield 49, 3) := by decide +kernel
theorem dX12_readStep_36 : decode cX12_readStep 36 = .ok (.iload_n 1, 1) := by decide +kernel
theorem dX12_readStep_37 : decode cX12_readStep 37 = .ok (.iload_n 2, 1) := by decide +kernel
theorem dX12_readStep_38 : decode cX12_readStep 38 = .ok (.iastore, 1) := by decide +kernel
theorem dX12_readStep_39 : decode cX12_readStep 39 = .ok (.aload_n 0, 1) := by decide +kernel
theorem dX12_readStep_40 : decode cX12_readStep 40 = .ok (.getfield 49, 3) := by decide +kernel
theorem dX12_readStep_43 : decode cX12_readStep 43 = .ok (.iload_n 1, 1) := by decide +kernel
theorem dX12_readStep_44 : decode cX12_readStep 44 = .ok (.iconst 1, 1) := by decide +kernel
theorem dX12_readStep_45 : decode cX12_readStep 45 = .ok (.iadd, 1) := by decide +kernel
theorem dX12_readStep_46 : decode cX12_readStep 46 = .ok (.iconst (-1), 1) := by decide +kernel
theorem dX12_readStep_47 : decode cX12_readStep 47 = .ok (.iastore, 1) := by decide +kernel
theorem dX12_readStep_48 : decode cX12_readStep 48 = .ok (.iload_n 2, 1) := by decide +kernel
theorem dX12_readStep_49 : decode cX12_readStep 49 = .ok (.iconst 1, 1) := by decide +kernel
theorem dX12_readStep_50 : decode cX12_readStep 50 = .ok (.if_icmp .eq 8, 3) := by decide +kernel
theorem dX12_readStep_53 : decode cX12_readStep 53 = .ok (.iload_n 2, 1) := by decide +kernel
theorem dX12_readStep_54 : decode cX12_readStep 54 = .ok (.iconst 3, 1) := by decide +kernel
theorem dX12_readStep_55 : decode cX12_readStep 55 = .ok (.if_icmp .ne 4, 3) := by decide +kernel
theorem dX12_readStep_58 : decode cX12_readStep 58 = .ok (.return_, 1) := by decide +kernel
theorem dX12_readStep_59 : decode cX12_readStep 59 = .ok (.aload_n 0, 1) := by decide +kernel
theorem dX12_readStep_60 : decode cX12_readStep 60 = .ok (.invokevirtual 145, 3) := by decide +kernel
theorem dX12_readStep_63 : decode cX12_readStep 63 = .ok (.istore_n 3, 1) := by decide +kernel
theorem dX12_readStep_64 : decode cX12_readStep 64 = .ok (.aload_n 0, 1) := by decide +kernel
theorem dX12_readStep_65 : decode cX12_readStep 65 = .ok (.invokevirtual 175, 3) := by decide +kernel
theorem dX12_readStep_68 : decode cX12_readStep 68 = .ok (.ifCond .ne 9, 3) := by decide +kernel
theorem dX12_readStep_71 : decode cX12_readStep 71 = .ok (.aload_n 0, 1) := by decide +kernel
theorem dX12_readStep_72 : decode cX12_readStep 72 = .ok (.invokevirtual 141, 3) := by decide +kernel
theorem dX12_readStep_75 : decode cX12_readStep 75 = .ok (.pop, 1) := by decide +kernel
theorem dX12_readStep_76 : decode cX12_readStep 76 = .ok (.return_, 1) := by decide +kernel
theorem dX12_readStep_77 : decode cX12_readStep 77 = .ok (.aload_n 0, 1) := by decide +kernel
theorem dX12_readStep_78 : decode cX12_readStep 78 = .ok (.getfield 49, 3) := by decide +kernel
theorem dX12_readStep_81 : decode cX12_readStep 81 = .ok (.iload_n 1, 1) := by decide +kernel
theorem dX12_readStep_82 : decode cX12_readStep 82 = .ok (.iconst 1, 1) := by decide +kernel
theorem dX12_readStep_83 : decode cX12_readStep 83 = .ok (.iadd, 1) := by decide +kernel
theorem dX12_readStep_84 : decode cX12_readStep 84 = .ok (.iload_n 3, 1) := by decide +kernel
theorem dX12_readStep_85 : decode cX12_readStep 85 = .ok (.bipush 48, 2) := by decide +kernel
theorem dX12_readStep_87 : decode cX12_readStep 87 = .ok (.isub, 1) := by decide +kernel
theorem dX12_readStep_88 : decode cX12_readStep 88 = .ok (.iastore, 1) := by decide +kernel
theorem dX12_readStep_89 : decode cX12_readStep 89 = .ok (.aload_n 0, 1) := by decide +kernel
theorem dX12_readStep_90 : decode cX12_readStep 90 = .ok (.dup, 1) := by decide +kernel
theorem dX12_readStep_91 : decode cX12_readStep 91 = .ok (.getfield 126, 3) := by decide +kernel
theorem dX12_readStep_94 : decode cX12_readStep 94 = .ok (.iconst 1, 1) := by decide +kernel
theorem dX12_readStep_95 : decode cX12_readStep 95 = .ok (.iadd, 1) := by decide +kernel
theorem dX12_readStep_96 : decode cX12_readStep 96 = .ok (.putfield 126, 3) := by decide +kernel
theorem dX12_readStep_99 : decode cX12_readStep 99 = .ok (.return_, 1) := by decide +kernel
theorem dX12_readDays_0 : decode cX12_readDays 0 = .ok (.aload_n 0, 1) := by decide +kernel
theorem dX12_readDays_1 : decode cX12_readDays 1 = .ok (.aload_n 0, 1) := by decide +kernel
theorem dX12_readDays_2 : decode cX12_readDays 2 = .ok (.getfield 9, 3) := by decide +kernel
theorem dX12_readDays_5 : decode cX12_readDays 5 = .ok (.iconst 0, 1) := by decide +kernel
theorem dX12_readDays_6 : decode cX12_readDays 6 = .ok (.aload_n 0, 1) := by decide +kernel
theorem dX12_readDays_7 : decode cX12_readDays 7 = .ok (.getfield 116, 3) := by decide +kernel
theorem dX12_readDays_10 : decode cX12_readDays 10 = .ok (.invokevirtual 214, 3) := by decide +kernel
theorem dX12_readDays_13 : decode cX12_readDays 13 = .ok (.iconst 0, 1) := by decide +kernel
theorem dX12_readDays_14 : decode cX12_readDays 14 = .ok (.istore_n 1, 1) := by decide +kernel
theorem dX12_readDays_15 : decode cX12_readDays 15 = .ok (.iconst 1, 1) := by decide +kernel
theorem dX12_readDays_16 : decode cX12_readDays 16 = .ok (.istore_n 2, 1) := by decide +kernel
theorem dX12_readDays_17 : decode cX12_readDays 17 = .ok (.iload_n 2, 1) := by decide +kernel
theorem dX12_readDays_18 : decode cX12_readDays 18 = .ok (.ifCond .eq 73, 3) := by decide +kernel
theorem dX12_readDays_21 : decode cX12_readDays 21 = .ok (.aload_n 0, 1) := by decide +kernel
theorem dX12_readDays_22 : decode cX12_readDays 22 = .ok (.iconst 2, 1) := by decide +kernel
theorem dX12_readDays_23 : decode cX12_readDays 23 = .ok (.bipush 64, 2) := by decide +kernel
theorem dX12_readDays_25 : decode cX12_readDays 25 = .ok (.iload_n 1, 1) := by decide +kernel
theorem dX12_readDays_26 : decode cX12_readDays 26 = .ok (.iadd, 1) := by decide +kernel
theorem dX12_readDays_27 : decode cX12_readDays 27 = .ok (.imul, 1) := by decide +kernel
theorem dX12_readDays_28 : decode cX12_readDays 28 = .ok (.invokevirtual 271, 3) := by decide +kernel
theorem dX12_readDays_31 : decode cX12_readDays 31 = .ok (.aload_n 0, 1) := by decide +kernel
theorem dX12_readDays_32 : decode cX12_readDays 32 = .ok (.getfield 135, 3) := by decide +kernel
theorem dX12_readDays_35 : decode cX12_readDays 35 = .ok (.iconst (-1), 1) := by decide +kernel
theorem dX12_readDays_36 : decode cX12_readDays 36 = .ok (.if_icmp .eq 4, 3) := by decide +kernel
theorem dX12_readDays_39 : decode cX12_readDays 39 = .ok (.return_, 1) := by decide +kernel
theorem dX12_readDays_40 : decode cX12_readDays 40 = .ok (.iinc 1 1, 3) := by decide +kernel
theorem dX12_readDays_43 : decode cX12_readDays 43 = .ok (.aload_n 0, 1) := by decide +kernel
theorem dX12_readDays_44 : decode cX12_readDays 44 = .ok (.invokevirtual 145, 3) := by decide +kernel
theorem dX12_readDays_47 : decode cX12_readDays 47 = .ok (.bipush 59, 2) := by decide +kernel
theorem dX12_readDays_49 : decode cX12_readDays 49 = .ok (.if_icmp .ne 7, 3) := by decide +kernel
theorem dX12_readDays_52 : decode cX12_readDays 52 = .ok (.iconst 1, 1) := by decide +kernel
theorem dX12_readDays_53 : decode cX12_readDays 53 = .ok (.goto 4, 3) := by decide +kernel
theorem dX12_readDays_56 : decode cX12_readDays 56 = .ok (.iconst 0, 1) := by decide +kernel
theorem dX12_readDays_57 : decode cX12_readDays 57 = .ok (.istore_n 2, 1) := by decide +kernel
theorem dX12_readDays_58 : decode cX12_readDays 58 = .ok (.iload_n 2, 1) := by decide +kernel
theorem dX12_readDays_59 : decode cX12_readDays 59 = .ok (.ifCond .eq 15, 3) := by decide +kernel
theorem dX12_readDays_62 : decode cX12_readDays 62 = .ok (.iload_n 1, 1) := by decide +kernel
theorem dX12_readDays_63 : decode cX12_readDays 63 = .ok (.bipush 16, 2) := by decide +kernel
theorem dX12_readDays_65 : decode cX12_readDays 65 = .ok (.if_icmp .ne 9, 3) := by decide +kernel
theorem dX12_readDays_68 : decode cX12_readDays 68 = .ok (.aload_n 0, 1) := by decide +kernel
theorem dX12_readDays_69 : decode cX12_readDays 69 = .ok (.invokevirtual 141, 3) := by decide +kernel
theorem dX12_readDays_72 : decode cX12_readDays 72 = .ok (.pop, 1) := by decide +kernel
theorem dX12_readDays_73 : decode cX12_readDays 73 = .ok (.return_, 1) := by decide +kernel
theorem dX12_readDays_74 : decode cX12_readDays 74 = .ok (.iload_n 2, 1) := by decide +kernel
theorem dX12_readDays_75 : decode cX12_readDays 75 = .ok (.ifCond .eq (-58), 3) := by decide +kernel
theorem dX12_readDays_78 : decode cX12_readDays 78 = .ok (.aload_n 0, 1) := by decide +kernel
theorem dX12_readDays_79 : decode cX12_readDays 79 = .ok (.dup, 1) := by decide +kernel
theorem dX12_readDays_80 : decode cX12_readDays 80 = .ok (.getfield 126, 3) := by decide +kernel
theorem dX12_readDays_83 : decode cX12_readDays 83 = .ok (.iconst 1, 1) := by decide +kernel
theorem dX12_readDays_84 : decode cX12_readDays 84 = .ok (.iadd, 1) := by decide +kernel
theorem dX12_readDays_85 : decode cX12_readDays 85 = .ok (.putfield 126, 3) := by decide +kernel
theorem dX12_readDays_88 : decode cX12_readDays 88 = .ok (.goto (-71), 3) := by decide +kernel
theorem dX12_readDays_91 : decode cX12_readDays 91 = .ok (.aload_n 0, 1) := by decide +kernel
theorem dX12_readDays_92 : decode cX12_readDays 92 = .ok (.getfield 52, 3) := by decide +kernel
theorem dX12_readDays_95 : decode cX12_readDays 95 = .ok (.iconst 4, 1) := by decide +kernel
theorem dX12_readDays_96 : decode cX12_readDays 96 = .ok (.iload_n 1, 1) := by decide +kernel
theorem dX12_readDays_97 : decode cX12_readDays 97 = .ok (.iastore, 1) := by decide +kernel
theorem dX12_readDays_98 : decode cX12_readDays 98 = .ok (.aload_n 0, 1) := by decide +kernel
theorem dX12_readDays_99 : decode cX12_readDays 99 = .ok (.invokevirtual 145, 3) := by decide +kernel
theorem dX12_readDays_102 : decode cX12_readDays 102 = .ok (.iconst (-1), 1) := by decide +kernel
theorem dX12_readDays_103 : decode cX12_readDays 103 = .ok (.if_icmp .eq 8, 3) := by decide +kernel
theorem dX12_readDays_106 : decode cX12_readDays 106 = .ok (.aload_n 0, 1) := by decide +kernel
theorem dX12_readDays_107 : decode cX12_readDays 107 = .ok (.invokevirtual 141, 3) := by decide +kernel
theorem dX12_readDays_110 : decode cX12_readDays 110 = .ok (.pop, 1) := by decide +kernel
theorem dX12_readDays_111 : decode cX12_readDays 111 = .ok (.return_, 1) := by decide +kernel
theorem dX12_fault_0 : decode cX12_fault 0 = .ok (.aload_n 0, 1) := by decide +kernel
theorem dX12_fault_1 : decode cX12_fault 1 = .ok (.iconst 0, 1) := by decide +kernel
theorem dX12_fault_2 : decode cX12_fault 2 = .ok (.putfield 103, 3) := by decide +kernel
theorem dX12_fault_5 : decode cX12_fault 5 = .ok (.iload_n 1, 1) := by decide +kernel
theorem dX12_fault_6 : decode cX12_fault 6 = .ok (.i2l, 1) := by decide +kernel
theorem dX12_fault_7 : decode cX12_fault 7 = .ok (.lconst 0, 1) := by decide +kernel
theorem dX12_fault_8 : decode cX12_fault 8 = .ok (.ldc2_w 274, 3) := by decide +kernel
theorem dX12_fault_11 : decode cX12_fault 11 = .ok (.invokestatic 224, 3) := by decide +kernel
theorem dX12_fault_14 : decode cX12_fault 14 = .ok (.ifCond .ne 6, 3) := by decide +kernel
theorem dX12_fault_17 : decode cX12_fault 17 = .ok (.bipush (-2), 2) := by decide +kernel
theorem dX12_fault_19 : decode cX12_fault 19 = .ok (.ireturn, 1) := by decide +kernel
theorem dX12_fault_20 : decode cX12_fault 20 = .ok (.iload_n 1, 1) := by decide +kernel
theorem dX12_fault_21 : decode cX12_fault 21 = .ok (.ifCond .ne 7, 3) := by decide +kernel
theorem dX12_fault_24 : decode cX12_fault 24 = .ok (.aload_n 0, 1) := by decide +kernel
theorem dX12_fault_25 : decode cX12_fault 25 = .ok (.invokevirtual 276, 3) := by decide +kernel
theorem dX12_fault_28 : decode cX12_fault 28 = .ok (.iload_n 1, 1) := by decide +kernel
theorem dX12_fault_29 : decode cX12_fault 29 = .ok (.iconst 1, 1) := by decide +kernel
theorem dX12_fault_30 : decode cX12_fault 30 = .ok (.if_icmp .ne 16, 3) := by decide +kernel
theorem dX12_fault_33 : decode cX12_fault 33 = .ok (.aload_n 0, 1) := by decide +kernel
theorem dX12_fault_34 : decode cX12_fault 34 = .ok (.aload_n 0, 1) := by decide +kernel
theorem dX12_fault_35 : decode cX12_fault 35 = .ok (.getfield 9, 3) := by decide +kernel
theorem dX12_fault_38 : decode cX12_fault 38 = .ok (.iconst 0, 1) := by decide +kernel
theorem dX12_fault_39 : decode cX12_fault 39 = .ok (.aload_n 0, 1) := by decide +kernel
theorem dX12_fault_40 : decode cX12_fault 40 = .ok (.getfield 116, 3) := by decide +kernel
theorem dX12_fault_43 : decode cX12_fault 43 = .ok (.invokevirtual 279, 3) := by decide +kernel
theorem dX12_fault_46 : decode cX12_fault 46 = .ok (.iload_n 1, 1) := by decide +kernel
theorem dX12_fault_47 : decode cX12_fault 47 = .ok (.iconst 2, 1) := by decide +kernel
theorem dX12_fault_48 : decode cX12_fault 48 = .ok (.if_icmp .ne 7, 3) := by decide +kernel
theorem dX12_fault_51 : decode cX12_fault 51 = .ok (.aload_n 0, 1) := by decide +kernel
theorem dX12_fault_52 : decode cX12_fault 52 = .ok (.invokevirtual 282, 3) := by decide +kernel
theorem dX12_fault_55 : decode cX12_fault 55 = .ok (.aload_n 0, 1) := by decide +kernel
theorem dX12_fault_56 : decode cX12_fault 56 = .ok (.getfield 135, 3) := by decide +kernel
theorem dX12_fault_59 : decode cX12_fault 59 = .ok (.ireturn, 1) := by decide +kernel
theorem dX12_text_0 : decode cX12_text 0 = .ok (.aload_n 0, 1) := by decide +kernel
theorem dX12_text_1 : decode cX12_text 1 = .ok (.iconst 0, 1) := by decide +kernel
theorem dX12_text_2 : decode cX12_text 2 = .ok (.putfield 103, 3) := by decide +kernel
theorem dX12_text_5 : decode cX12_text 5 = .ok (.iload_n 1, 1) := by decide +kernel
theorem dX12_text_6 : decode cX12_text 6 = .ok (.i2l, 1) := by decide +kernel
theorem dX12_text_7 : decode cX12_text 7 = .ok (.lconst 0, 1) := by decide +kernel
theorem dX12_text_8 : decode cX12_text 8 = .ok (.ldc2_w 274, 3) := by decide +kernel
theorem dX12_text_11 : decode cX12_text 11 = .ok (.invokestatic 224, 3) := by decide +kernel
theorem dX12_text_14 : decode cX12_text 14 = .ok (.ifCond .eq 38, 3) := by decide +kernel
theorem dX12_text_17 : decode cX12_text 17 = .ok (.iload_n 1, 1) := by decide +kernel
theorem dX12_text_18 : decode cX12_text 18 = .ok (.iconst 1, 1) := by decide +kernel
theorem dX12_text_19 : decode cX12_text 19 = .ok (.if_icmp .ne 11, 3) := by decide +kernel
theorem dX12_text_22 : decode cX12_text 22 = .ok (.aload_n 0, 1) := by decide +kernel
theorem dX12_text_23 : decode cX12_text 23 = .ok (.getfield 285, 3) := by decide +kernel
theorem dX12_text_26 : decode cX12_text 26 = .ok (.iconst 4, 1) := by decide +kernel
theorem dX12_text_27 : decode cX12_text 27 = .ok (.if_icmp .eq 25, 3) := by decide +kernel
theorem dX12_text_30 : decode cX12_text 30 = .ok (.iload_n 1, 1) := by decide +kernel
theorem dX12_text_31 : decode cX12_text 31 = .ok (.iconst 2, 1) := by decide +kernel
theorem dX12_text_32 : decode cX12_text 32 = .ok (.if_icmp .ne 11, 3) := by decide +kernel
theorem dX12_text_35 : decode cX12_text 35 = .ok (.aload_n 0, 1) := by decide +kernel
theorem dX12_text_36 : decode cX12_text 36 = .ok (.getfield 288, 3) := by decide +kernel
theorem dX12_text_39 : decode cX12_text 39 = .ok (.iconst 4, 1) := by decide +kernel
theorem dX12_text_40 : decode cX12_text 40 = .ok (.if_icmp .eq 12, 3) := by decide +kernel
theorem dX12_text_43 : decode cX12_text 43 = .ok (.aload_n 0, 1) := by decide +kernel
theorem dX12_text_44 : decode cX12_text 44 = .ok (.iload_n 1, 1) := by decide +kernel
theorem dX12_text_45 : decode cX12_text 45 = .ok (.invokevirtual 291, 3) := by decide +kernel
theorem dX12_text_48 : decode cX12_text 48 = .ok (.iconst (-1), 1) := by decide +kernel
theorem dX12_text_49 : decode cX12_text 49 = .ok (.if_icmp .eq 5, 3) := by decide +kernel
theorem dX12_text_52 : decode cX12_text 52 = .ok (.iconst (-1), 1) := by decide +kernel
theorem dX12_text_53 : decode cX12_text 53 = .ok (.ireturn, 1) := by decide +kernel
theorem dX12_text_54 : decode cX12_text 54 = .ok (.aload_n 0, 1) := by decide +kernel
theorem dX12_text_55 : decode cX12_text 55 = .ok (.getfield 116, 3) := by decide +kernel
theorem dX12_text_58 : decode cX12_text 58 = .ok (.istore_n 2, 1) := by decide +kernel
theorem dX12_text_59 : decode cX12_text 59 = .ok (.aload_n 0, 1) := by decide +kernel
theorem dX12_text_60 : decode cX12_text 60 = .ok (.iconst 0, 1) := by decide +kernel
theorem dX12_text_61 : decode cX12_text 61 = .ok (.putfield 116, 3) := by decide +kernel
theorem dX12_text_64 : decode cX12_text 64 = .ok (.iload_n 1, 1) := by decide +kernel
theorem dX12_text_65 : decode cX12_text 65 = .ok (.iconst 1, 1) := by decide +kernel
theorem dX12_text_66 : decode cX12_text 66 = .ok (.if_icmp .ne 64, 3) := by decide +kernel
theorem dX12_text_69 : decode cX12_text 69 = .ok (.iconst 0, 1) := by decide +kernel
theorem dX12_text_70 : decode cX12_text 70 = .ok (.istore_n 3, 1) := by decide +kernel
theorem dX12_text_71 : decode cX12_text 71 = .ok (.iload_n 3, 1) := by decide +kernel
theorem dX12_text_72 : decode cX12_text 72 = .ok (.iload_n 2, 1) := by decide +kernel
theorem dX12_text_73 : decode cX12_text 73 = .ok (.if_icmp .ge 30, 3) := by decide +kernel
theorem dX12_text_76 : decode cX12_text 76 = .ok (.aload_n 0, 1) := by decide +kernel
theorem dX12_text_77 : decode cX12_text 77 = .ok (.getfield 13, 3) := by decide +kernel
theorem dX12_text_80 : decode cX12_text 80 = .ok (.sipush 240, 3) := by decide +kernel
theorem dX12_text_83 : decode cX12_text 83 = .ok (.aload_n 0, 1) := by decide +kernel
theorem dX12_text_84 : decode cX12_text 84 = .ok (.getfield 285, 3) := by decide +kernel
theorem dX12_text_87 : decode cX12_text 87 = .ok (.imul, 1) := by decide +kernel
theorem dX12_text_88 : decode cX12_text 88 = .ok (.iload_n 3, 1) := by decide +kernel
theorem dX12_text_89 : decode cX12_text 89 = .ok (.iadd, 1) := by decide +kernel
theorem dX12_text_90 : decode cX12_text 90 = .ok (.aload_n 0, 1) := by decide +kernel
theorem dX12_text_91 : decode cX12_text 91 = .ok (.getfield 9, 3) := by decide +kernel
theorem dX12_text_94 : decode cX12_text 94 = .ok (.iload_n 3, 1) := by decide +kernel
theorem dX12_text_95 : decode cX12_text 95 = .ok (.baload, 1) := by decide +kernel
theorem dX12_text_96 : decode cX12_text 96 = .ok (.bastore, 1) := by decide +kernel
theorem dX12_text_97 : decode cX12_text 97 = .ok (.iinc 3 1, 3) := by decide +kernel
theorem dX12_text_100 : decode cX12_text 100 = .ok (.goto (-29), 3) := by decide +kernel
theorem dX12_text_103 : decode cX12_text 103 = .ok (.aload_n 0, 1) := by decide +kernel
theorem dX12_text_104 : decode cX12_text 104 = .ok (.getfield 16, 3) := by decide +kernel
theorem dX12_text_107 : decode cX12_text 107 = .ok (.aload_n 0, 1) := by decide +kernel
theorem dX12_text_108 : decode cX12_text 108 = .ok (.getfield 285, 3) := by decide +kernel
theorem dX12_text_111 : decode cX12_text 111 = .ok (.iload_n 2, 1) := by decide +kernel
theorem dX12_text_112 : decode cX12_text 112 = .ok (.iastore, 1) := by decide +kernel
theorem dX12_text_113 : decode cX12_text 113 = .ok (.aload_n 0, 1) := by decide +kernel
theorem dX12_text_114 : decode cX12_text 114 = .ok (.dup, 1) := by decide +kernel
theorem dX12_text_115 : decode cX12_text 115 = .ok (.getfield 285, 3) := by decide +kernel
theorem dX12_text_118 : decode cX12_text 118 = .ok (.iconst 1, 1) := by decide +kernel
theorem dX12_text_119 : decode cX12_text 119 = .ok (.iadd, 1) := by decide +kernel
theorem dX12_text_120 : decode cX12_text 120 = .ok (.putfield 285, 3) := by decide +kernel
theorem dX12_text_123 : decode cX12_text 123 = .ok (.aload_n 0, 1) := by decide +kernel
theorem dX12_text_124 : decode cX12_text 124 = .ok (.getfield 285, 3) := by decide +kernel
theorem dX12_text_127 : decode cX12_text 127 = .ok (.iconst 1, 1) := by decide +kernel
theorem dX12_text_128 : decode cX12_text 128 = .ok (.isub, 1) := by decide +kernel
theorem dX12_text_129 : decode cX12_text 129 = .ok (.ireturn, 1) := by decide +kernel
theorem dX12_text_130 : decode cX12_text 130 = .ok (.iload_n 1, 1) := by decide +kernel
theorem dX12_text_131 : decode cX12_text 131 = .ok (.iconst 2, 1) := by decide +kernel
theorem dX12_text_132 : decode cX12_text 132 = .ok (.if_icmp .ne 73, 3) := by decide +kernel
theorem dX12_text_135 : decode cX12_text 135 = .ok (.iconst 0, 1) := by decide +kernel
theorem dX12_text_136 : decode cX12_text 136 = .ok (.istore_n 3, 1) := by decide +kernel
theorem dX12_text_137 : decode cX12_text 137 = .ok (.iload_n 3, 1) := by decide +kernel
theorem dX12_text_138 : decode cX12_text 138 = .ok (.bipush 32, 2) := by decide +kernel
theorem dX12_text_140 : decode cX12_text 140 = .ok (.if_icmp .ge 33, 3) := by decide +kernel
theorem dX12_text_143 : decode cX12_text 143 = .ok (.aload_n 0, 1) := by decide +kernel
theorem dX12_text_144 : decode cX12_text 144 = .ok (.getfield 49, 3) := by decide +kernel
theorem dX12_text_147 : decode cX12_text 147 = .ok (.bipush 32, 2) := by decide +kernel
theorem dX12_text_149 : decode cX12_text 149 = .ok (.aload_n 0, 1) := by decide +kernel
theorem dX12_text_150 : decode cX12_text 150 = .ok (.getfield 288, 3) := by decide +kernel
theorem dX12_text_153 : decode cX12_text 153 = .ok (.imul, 1) := by decide +kernel
theorem dX12_text_154 : decode cX12_text 154 = .ok (.iload_n 3, 1) := by decide +kernel
theorem dX12_text_155 : decode cX12_text 155 = .ok (.iadd, 1) := by decide +kernel
theorem dX12_text_156 : decode cX12_text 156 = .ok (.aload_n 0, 1) := by decide +kernel
theorem dX12_text_157 : decode cX12_text 157 = .ok (.getfield 49, 3) := by decide +kernel
theorem dX12_text_160 : decode cX12_text 160 = .ok (.sipush 128, 3) := by decide +kernel
theorem dX12_text_163 : decode cX12_text 163 = .ok (.iload_n 3, 1) := by decide +kernel
theorem dX12_text_164 : decode cX12_text 164 = .ok (.iadd, 1) := by decide +kernel
theorem dX12_text_165 : decode cX12_text 165 = .ok (.iaload, 1) := by decide +kernel
theorem dX12_text_166 : decode cX12_text 166 = .ok (.iastore, 1) := by decide +kernel
theorem dX12_text_167 : decode cX12_text 167 = .ok (.iinc 3 1, 3) := by decide +kernel
theorem dX12_text_170 : decode cX12_text 170 = .ok (.goto (-33), 3) := by decide +kernel
theorem dX12_text_173 : decode cX12_text 173 = .ok (.aload_n 0, 1) := by decide +kernel
theorem dX12_text_174 : decode cX12_text 174 = .ok (.getfield 52, 3) := by decide +kernel
theorem dX12_text_177 : decode cX12_text 177 = .ok (.aload_n 0, 1) := by decide +kernel
theorem dX12_text_178 : decode cX12_text 178 = .ok (.getfield 288, 3) := by decide +kernel
theorem dX12_text_181 : decode cX12_text 181 = .ok (.aload_n 0, 1) := by decide +kernel
theorem dX12_text_182 : decode cX12_text 182 = .ok (.getfield 52, 3) := by decide +kernel
theorem dX12_text_185 : decode cX12_text 185 = .ok (.iconst 4, 1) := by decide +kernel
theorem dX12_text_186 : decode cX12_text 186 = .ok (.iaload, 1) := by decide +kernel
theorem dX12_text_187 : decode cX12_text 187 = .ok (.iastore, 1) := by decide +kernel
theorem dX12_text_188 : decode cX12_text 188 = .ok (.aload_n 0, 1) := by decide +kernel
theorem dX12_text_189 : decode cX12_text 189 = .ok (.dup, 1) := by decide +kernel
theorem dX12_text_190 : decode cX12_text 190 = .ok (.getfield 288, 3) := by decide +kernel
theorem dX12_text_193 : decode cX12_text 193 = .ok (.iconst 1, 1) := by decide +kernel
theorem dX12_text_194 : decode cX12_text 194 = .ok (.iadd, 1) := by decide +kernel
theorem dX12_text_195 : decode cX12_text 195 = .ok (.putfield 288, 3) := by decide +kernel
theorem dX12_text_198 : decode cX12_text 198 = .ok (.aload_n 0, 1) := by decide +kernel
theorem dX12_text_199 : decode cX12_text 199 = .ok (.getfield 288, 3) := by decide +kernel
theorem dX12_text_202 : decode cX12_text 202 = .ok (.iconst 1, 1) := by decide +kernel
theorem dX12_text_203 : decode cX12_text 203 = .ok (.isub, 1) := by decide +kernel
theorem dX12_text_204 : decode cX12_text 204 = .ok (.ireturn, 1) := by decide +kernel
theorem dX12_text_205 : decode cX12_text 205 = .ok (.aload_n 0, 1) := by decide +kernel
theorem dX12_text_206 : decode cX12_text 206 = .ok (.aload_n 0, 1) := by decide +kernel
theorem dX12_text_207 : decode cX12_text 207 = .ok (.getfield 252, 3) := by decide +kernel
theorem dX12_text_210 : decode cX12_text 210 = .ok (.putfield 293, 3) := by decide +kernel
theorem dX12_text_213 : decode cX12_text 213 = .ok (.iconst 0, 1) := by decide +kernel
theorem dX12_text_214 : decode cX12_text 214 = .ok (.istore_n 3, 1) := by decide +kernel
theorem dX12_text_215 : decode cX12_text 215 = .ok (.iload_n 3, 1) := by decide +kernel
theorem dX12_text_216 : decode cX12_text 216 = .ok (.iconst 3, 1) := by decide +kernel
theorem dX12_text_217 : decode cX12_text 217 = .ok (.if_icmp .ge 21, 3) := by decide +kernel
theorem dX12_text_220 : decode cX12_text 220 = .ok (.aload_n 0, 1) := by decide +kernel
theorem dX12_text_221 : decode cX12_text 221 = .ok (.getfield 37, 3) := by decide +kernel
theorem dX12_text_224 : decode cX12_text 224 = .ok (.iload_n 3, 1) := by decide +kernel
theorem dX12_text_225 : decode cX12_text 225 = .ok (.aload_n 0, 1) := by decide +kernel
theorem dX12_text_226 : decode cX12_text 226 = .ok (.getfield 40, 3) := by decide +kernel
theorem dX12_text_229 : decode cX12_text 229 = .ok (.iload_n 3, 1) := by decide +kernel
theorem dX12_text_230 : decode cX12_text 230 = .ok (.iaload, 1) := by decide +kernel
theorem dX12_text_231 : decode cX12_text 231 = .ok (.iastore, 1) := by decide +kernel
theorem dX12_text_232 : decode cX12_text 232 = .ok (.iinc 3 1, 3) := by decide +kernel
theorem dX12_text_235 : decode cX12_text 235 = .ok (.goto (-20), 3) := by decide +kernel
theorem dX12_text_238 : decode cX12_text 238 = .ok (.iconst 0, 1) := by decide +kernel
theorem dX12_text_239 : decode cX12_text 239 = .ok (.istore_n 3, 1) := by decide +kernel
theorem dX12_text_240 : decode cX12_text 240 = .ok (.iload_n 3, 1) := by decide +kernel
theorem dX12_text_241 : decode cX12_text 241 = .ok (.bipush 35, 2) := by decide +kernel
theorem dX12_text_243 : decode cX12_text 243 = .ok (.if_icmp .ge 21, 3) := by decide +kernel
theorem dX12_text_246 : decode cX12_text 246 = .ok (.aload_n 0, 1) := by decide +kernel
theorem dX12_text_247 : decode cX12_text 247 = .ok (.getfield 43, 3) := by decide +kernel
theorem dX12_text_250 : decode cX12_text 250 = .ok (.iload_n 3, 1) := by decide +kernel
theorem dX12_text_251 : decode cX12_text 251 = .ok (.aload_n 0, 1) := by decide +kernel
theorem dX12_text_252 : decode cX12_text 252 = .ok (.getfield 46, 3) := by decide +kernel
theorem dX12_text_255 : decode cX12_text 255 = .ok (.iload_n 3, 1) := by decide +kernel
theorem dX12_text_256 : decode cX12_text 256 = .ok (.iaload, 1) := by decide +kernel
theorem dX12_text_257 : decode cX12_text 257 = .ok (.iastore, 1) := by decide +kernel
theorem dX12_text_258 : decode cX12_text 258 = .ok (.iinc 3 1, 3) := by decide +kernel
theorem dX12_text_261 : decode cX12_text 261 = .ok (.goto (-21), 3) := by decide +kernel
theorem dX12_text_264 : decode cX12_text 264 = .ok (.iconst 0, 1) := by decide +kernel
theorem dX12_text_265 : decode cX12_text 265 = .ok (.istore_n 3, 1) := by decide +kernel
theorem dX12_text_266 : decode cX12_text 266 = .ok (.iload_n 3, 1) := by decide +kernel
theorem dX12_text_267 : decode cX12_text 267 = .ok (.sipush 209, 3) := by decide +kernel
theorem dX12_text_270 : decode cX12_text 270 = .ok (.if_icmp .ge 16, 3) := by decide +kernel
theorem dX12_text_273 : decode cX12_text 273 = .ok (.aload_n 0, 1) := by decide +kernel
theorem dX12_text_274 : decode cX12_text 274 = .ok (.getfield 55, 3) := by decide +kernel
theorem dX12_text_277 : decode cX12_text 277 = .ok (.iload_n 3, 1) := by decide +kernel
theorem dX12_text_278 : decode cX12_text 278 = .ok (.iconst 0, 1) := by decide +kernel
theorem dX12_text_279 : decode cX12_text 279 = .ok (.iastore, 1) := by decide +kernel
theorem dX12_text_280 : decode cX12_text 280 = .ok (.iinc 3 1, 3) := by decide +kernel
theorem dX12_text_283 : decode cX12_text 283 = .ok (.goto (-17), 3) := by decide +kernel
theorem dX12_text_286 : decode cX12_text 286 = .ok (.iconst 0, 1) := by decide +kernel
theorem dX12_text_287 : decode cX12_text 287 = .ok (.istore_n 3, 1) := by decide +kernel
theorem dX12_text_288 : decode cX12_text 288 = .ok (.iload_n 3, 1) := by decide +kernel
theorem dX12_text_289 : decode cX12_text 289 = .ok (.aload_n 0, 1) := by decide +kernel
theorem dX12_text_290 : decode cX12_text 290 = .ok (.getfield 293, 3) := by decide +kernel
theorem dX12_text_293 : decode cX12_text 293 = .ok (.if_icmp .ge 29, 3) := by decide +kernel
theorem dX12_text_296 : decode cX12_text 296 = .ok (.aload_n 0, 1) := by decide +kernel
theorem dX12_text_297 : decode cX12_text 297 = .ok (.getfield 55, 3) := by decide +kernel
theorem dX12_text_300 : decode cX12_text 300 = .ok (.iconst 3, 1) := by decide +kernel
theorem dX12_text_301 : decode cX12_text 301 = .ok (.iload_n 3, 1) := by decide +kernel
theorem dX12_text_302 : decode cX12_text 302 = .ok (.imul, 1) := by decide +kernel
theorem dX12_text_303 : decode cX12_text 303 = .ok (.iconst 1, 1) := by decide +kernel
theorem dX12_text_304 : decode cX12_text 304 = .ok (.iadd, 1) := by decide +kernel
theorem dX12_text_305 : decode cX12_text 305 = .ok (.aload_n 0, 1) := by decide +kernel
theorem dX12_text_306 : decode cX12_text 306 = .ok (.getfield 43, 3) := by decide +kernel
theorem dX12_text_309 : decode cX12_text 309 = .ok (.iconst 5, 1) := by decide +kernel
theorem dX12_text_310 : decode cX12_text 310 = .ok (.iload_n 3, 1) := by decide +kernel
theorem dX12_text_311 : decode cX12_text 311 = .ok (.imul, 1) := by decide +kernel
theorem dX12_text_312 : decode cX12_text 312 = .ok (.iconst 4, 1) := by decide +kernel
theorem dX12_text_313 : decode cX12_text 313 = .ok (.iadd, 1) := by decide +kernel
theorem dX12_text_314 : decode cX12_text 314 = .ok (.iaload, 1) := by decide +kernel
theorem dX12_text_315 : decode cX12_text 315 = .ok (.iastore, 1) := by decide +kernel
theorem dX12_text_316 : decode cX12_text 316 = .ok (.iinc 3 1, 3) := by decide +kernel
theorem dX12_text_319 : decode cX12_text 319 = .ok (.goto (-31), 3) := by decide +kernel
theorem dX12_text_322 : decode cX12_text 322 = .ok (.aload_n 0, 1) := by decide +kernel
theorem dX12_text_323 : decode cX12_text 323 = .ok (.iconst 0, 1) := by decide +kernel
theorem dX12_text_324 : decode cX12_text 324 = .ok (.putfield 296, 3) := by decide +kernel
theorem dX12_text_327 : decode cX12_text 327 = .ok (.aload_n 0, 1) := by decide +kernel
theorem dX12_text_328 : decode cX12_text 328 = .ok (.iconst 0, 1) := by decide +kernel
theorem dX12_text_329 : decode cX12_text 329 = .ok (.putfield 299, 3) := by decide +kernel
theorem dX12_text_332 : decode cX12_text 332 = .ok (.aload_n 0, 1) := by decide +kernel
theorem dX12_text_333 : decode cX12_text 333 = .ok (.iconst 0, 1) := by decide +kernel
theorem dX12_text_334 : decode cX12_text 334 = .ok (.putfield 302, 3) := by decide +kernel
theorem dX12_text_337 : decode cX12_text 337 = .ok (.aload_n 0, 1) := by decide +kernel
theorem dX12_text_338 : decode cX12_text 338 = .ok (.getfield 293, 3) := by decide +kernel
theorem dX12_text_341 : decode cX12_text 341 = .ok (.ireturn, 1) := by decide +kernel
theorem dX12_copy_0 : decode cX12_copy 0 = .ok (.iconst 0, 1) := by decide +kernel
theorem dX12_copy_1 : decode cX12_copy 1 = .ok (.istore_n 2, 1) := by decide +kernel
theorem dX12_copy_2 : decode cX12_copy 2 = .ok (.iload_n 2, 1) := by decide +kernel
theorem dX12_copy_3 : decode cX12_copy 3 = .ok (.bipush 28, 2) := by decide +kernel
theorem dX12_copy_5 : decode cX12_copy 5 = .ok (.if_icmp .ge 15, 3) := by decide +kernel
theorem dX12_copy_8 : decode cX12_copy 8 = .ok (.aload_n 1, 1) := by decide +kernel
theorem dX12_copy_9 : decode cX12_copy 9 = .ok (.iload_n 2, 1) := by decide +kernel
theorem dX12_copy_10 : decode cX12_copy 10 = .ok (.aload_n 0, 1) := by decide +kernel
theorem dX12_copy_11 : decode cX12_copy 11 = .ok (.iload_n 2, 1) := by decide +kernel
theorem dX12_copy_12 : decode cX12_copy 12 = .ok (.iaload, 1) := by decide +kernel
theorem dX12_copy_13 : decode cX12_copy 13 = .ok (.iastore, 1) := by decide +kernel
theorem dX12_copy_14 : decode cX12_copy 14 = .ok (.iinc 2 1, 3) := by decide +kernel
theorem dX12_copy_17 : decode cX12_copy 17 = .ok (.goto (-15), 3) := by decide +kernel
theorem dX12_copy_20 : decode cX12_copy 20 = .ok (.aload_n 1, 1) := by decide +kernel
theorem dX12_copy_21 : decode cX12_copy 21 = .ok (.bipush 28, 2) := by decide +kernel
theorem dX12_copy_23 : decode cX12_copy 23 = .ok (.iconst 0, 1) := by decide +kernel
theorem dX12_copy_24 : decode cX12_copy 24 = .ok (.iastore, 1) := by decide +kernel
theorem dX12_copy_25 : decode cX12_copy 25 = .ok (.return_, 1) := by decide +kernel
theorem dX12_isPlace_0 : decode cX12_isPlace 0 = .ok (.iload_n 1, 1) := by decide +kernel
theorem dX12_isPlace_1 : decode cX12_isPlace 1 = .ok (.ifCond .lt 15, 3) := by decide +kernel
theorem dX12_isPlace_4 : decode cX12_isPlace 4 = .ok (.iload_n 1, 1) := by decide +kernel
theorem dX12_isPlace_5 : decode cX12_isPlace 5 = .ok (.aload_n 0, 1) := by decide +kernel
theorem dX12_isPlace_6 : decode cX12_isPlace 6 = .ok (.getfield 293, 3) := by decide +kernel
theorem dX12_isPlace_9 : decode cX12_isPlace 9 = .ok (.if_icmp .ge 7, 3) := by decide +kernel
theorem dX12_isPlace_12 : decode cX12_isPlace 12 = .ok (.iconst 1, 1) := by decide +kernel
theorem dX12_isPlace_13 : decode cX12_isPlace 13 = .ok (.goto 4, 3) := by decide +kernel
theorem dX12_isPlace_16 : decode cX12_isPlace 16 = .ok (.iconst 0, 1) := by decide +kernel
theorem dX12_isPlace_17 : decode cX12_isPlace 17 = .ok (.ireturn, 1) := by decide +kernel
theorem dX12_of_0 : decode cX12_of 0 = .ok (.aload_n 0, 1) := by decide +kernel
theorem dX12_of_1 : decode cX12_of 1 = .ok (.getfield 43, 3) := by decide +kernel
theorem dX12_of_4 : decode cX12_of 4 = .ok (.iconst 5, 1) := by decide +kernel
theorem dX12_of_5 : decode cX12_of 5 = .ok (.iload_n 1, 1) := by decide +kernel
theorem dX12_of_6 : decode cX12_of 6 = .ok (.imul, 1) := by decide +kernel
theorem dX12_of_7 : decode cX12_of 7 = .ok (.iload_n 2, 1) := by decide +kernel
theorem dX12_of_8 : decode cX12_of 8 = .ok (.iadd, 1) := by decide +kernel
theorem dX12_of_9 : decode cX12_of 9 = .ok (.iaload, 1) := by decide +kernel
theorem dX12_of_10 : decode cX12_of 10 = .ok (.ireturn, 1) := by decide +kernel
theorem dX12_between_0 : decode cX12_between 0 = .ok (.iload_n 1, 1) := by decide +kernel
theorem dX12_between_1 : decode cX12_between 1 = .ok (.iconst (-1), 1) := by decide +kernel
theorem dX12_between_2 : decode cX12_between 2 = .ok (.if_icmp .ne 7, 3) := by decide +kernel
theorem dX12_between_5 : decode cX12_between 5 = .ok (.iconst 0, 1) := by decide +kernel
theorem dX12_between_6 : decode cX12_between 6 = .ok (.goto 9, 3) := by decide +kernel
theorem dX12_between_9 : decode cX12_between 9 = .ok (.aload_n 0, 1) := by decide +kernel
theorem dX12_between_10 : decode cX12_between 10 = .ok (.iload_n 1, 1) := by decide +kernel
theorem dX12_between_11 : decode cX12_between 11 = .ok (.iconst 0, 1) := by decide +kernel
theorem dX12_between_12 : decode cX12_between 12 = .ok (.invokevirtual 305, 3) := by decide +kernel
theorem dX12_between_15 : decode cX12_between 15 = .ok (.istore_n 3, 1) := by decide +kernel
theorem dX12_between_16 : decode cX12_between 16 = .ok (.iload_n 1, 1) := by decide +kernel
theorem dX12_between_17 : decode cX12_between 17 = .ok (.iconst (-1), 1) := by decide +kernel
theorem dX12_between_18 : decode cX12_between 18 = .ok (.if_icmp .ne 7, 3) := by decide +kernel
theorem dX12_between_21 : decode cX12_between 21 = .ok (.iconst 0, 1) := by decide +kernel
theorem dX12_between_22 : decode cX12_between 22 = .ok (.goto 9, 3) := by decide +kernel
theorem dX12_between_25 : decode cX12_between 25 = .ok (.aload_n 0, 1) := by decide +kernel
theorem dX12_between_26 : decode cX12_between 26 = .ok (.iload_n 1, 1) := by decide +kernel
theorem dX12_between_27 : decode cX12_between 27 = .ok (.iconst 1, 1) := by decide +kernel
theorem dX12_between_28 : decode cX12_between 28 = .ok (.invokevirtual 305, 3) := by decide +kernel
theorem dX12_between_31 : decode cX12_between 31 = .ok (.istore 4, 2) := by decide +kernel
theorem dX12_between_33 : decode cX12_between 33 = .ok (.iload_n 3, 1) := by decide +kernel
theorem dX12_between_34 : decode cX12_between 34 = .ok (.aload_n 0, 1) := by decide +kernel
theorem dX12_between_35 : decode cX12_between 35 = .ok (.iload_n 2, 1) := by decide +kernel
theorem dX12_between_36 : decode cX12_between 36 = .ok (.iconst 0, 1) := by decide +kernel
theorem dX12_between_37 : decode cX12_between 37 = .ok (.invokevirtual 305, 3) := by decide +kernel
theorem dX12_between_40 : decode cX12_between 40 = .ok (.isub, 1) := by decide +kernel
theorem dX12_between_41 : decode cX12_between 41 = .ok (.invokestatic 308, 3) := by decide +kernel
theorem dX12_between_44 : decode cX12_between 44 = .ok (.iload 4, 2) := by decide +kernel
theorem dX12_between_46 : decode cX12_between 46 = .ok (.aload_n 0, 1) := by decide +kernel
theorem dX12_between_47 : decode cX12_between 47 = .ok (.iload_n 2, 1) := by decide +kernel
theorem dX12_between_48 : decode cX12_between 48 = .ok (.iconst 1, 1) := by decide +kernel
theorem dX12_between_49 : decode cX12_between 49 = .ok (.invokevirtual 305, 3) := by decide +kernel
theorem dX12_between_52 : decode cX12_between 52 = .ok (.isub, 1) := by decide +kernel
theorem dX12_between_53 : decode cX12_between 53 = .ok (.invokestatic 308, 3) := by decide +kernel
theorem dX12_between_56 : decode cX12_between 56 = .ok (.iadd, 1) := by decide +kernel
theorem dX12_between_57 : decode cX12_between 57 = .ok (.ireturn, 1) := by decide +kernel
theorem dX12_where_0 : decode cX12_where 0 = .ok (.aload_n 0, 1) := by decide +kernel
theorem dX12_where_1 : decode cX12_where 1 = .ok (.bipush 23, 2) := by decide +kernel
theorem dX12_where_3 : decode cX12_where 3 = .ok (.iaload, 1) := by decide +kernel
theorem dX12_where_4 : decode cX12_where 4 = .ok (.iconst 1, 1) := by decide +kernel
theorem dX12_where_5 : decode cX12_where 5 = .ok (.isub, 1) := by decide +kernel
theorem dX12_where_6 : decode cX12_where 6 = .ok (.ireturn, 1) := by decide +kernel
theorem dX12_far_0 : decode cX12_far 0 = .ok (.aload_n 0, 1) := by decide +kernel
theorem dX12_far_1 : decode cX12_far 1 = .ok (.aload_n 1, 1) := by decide +kernel
theorem dX12_far_2 : decode cX12_far 2 = .ok (.invokestatic 311, 3) := by decide +kernel
theorem dX12_far_5 : decode cX12_far 5 = .ok (.iload_n 2, 1) := by decide +kernel
theorem dX12_far_6 : decode cX12_far 6 = .ok (.invokevirtual 315, 3) := by decide +kernel
theorem dX12_far_9 : decode cX12_far 9 = .ok (.ireturn, 1) := by decide +kernel
theorem dX12_worthNow_0 : decode cX12_worthNow 0 = .ok (.lconst 1, 1) := by decide +kernel
theorem dX12_worthNow_1 : decode cX12_worthNow 1 = .ok (.aload_n 0, 1) := by decide +kernel
theorem dX12_worthNow_2 : decode cX12_worthNow 2 = .ok (.getfield 61, 3) := by decide +kernel
theorem dX12_worthNow_5 : decode cX12_worthNow 5 = .ok (.i2l, 1) := by decide +kernel
theorem dX12_worthNow_6 : decode cX12_worthNow 6 = .ok (.ladd, 1) := by decide +kernel
theorem dX12_worthNow_7 : decode cX12_worthNow 7 = .ok (.lstore_n 1, 1) := by decide +kernel
theorem dX12_worthNow_8 : decode cX12_worthNow 8 = .ok (.ldc2_w 318, 3) := by decide +kernel
theorem dX12_worthNow_11 : decode cX12_worthNow 11 = .ok (.lload_n 1, 1) := by decide +kernel
theorem dX12_worthNow_12 : decode cX12_worthNow 12 = .ok (.lmul, 1) := by decide +kernel
theorem dX12_worthNow_13 : decode cX12_worthNow 13 = .ok (.aload_n 0, 1) := by decide +kernel
theorem dX12_worthNow_14 : decode cX12_worthNow 14 = .ok (.getfield 20, 3) := by decide +kernel
theorem dX12_worthNow_17 : decode cX12_worthNow 17 = .ok (.bipush 107, 2) := by decide +kernel
theorem dX12_worthNow_19 : decode cX12_worthNow 19 = .ok (.iaload, 1) := by decide +kernel
theorem dX12_worthNow_20 : decode cX12_worthNow 20 = .ok (.i2l, 1) := by decide +kernel
theorem dX12_worthNow_21 : decode cX12_worthNow 21 = .ok (.ladd, 1) := by decide +kernel
theorem dX12_worthNow_22 : decode cX12_worthNow 22 = .ok (.lstore_n 1, 1) := by decide +kernel
theorem dX12_worthNow_23 : decode cX12_worthNow 23 = .ok (.ldc2_w 320, 3) := by decide +kernel
theorem dX12_worthNow_26 : decode cX12_worthNow 26 = .ok (.lload_n 1, 1) := by decide +kernel
theorem dX12_worthNow_27 : decode cX12_worthNow 27 = .ok (.lmul, 1) := by decide +kernel
theorem dX12_worthNow_28 : decode cX12_worthNow 28 = .ok (.aload_n 0, 1) := by decide +kernel
theorem dX12_worthNow_29 : decode cX12_worthNow 29 = .ok (.getfield 20, 3) := by decide +kernel
theorem dX12_worthNow_32 : decode cX12_worthNow 32 = .ok (.bipush 118, 2) := by decide +kernel
theorem dX12_worthNow_34 : decode cX12_worthNow 34 = .ok (.iaload, 1) := by decide +kernel
theorem dX12_worthNow_35 : decode cX12_worthNow 35 = .ok (.i2l, 1) := by decide +kernel
theorem dX12_worthNow_36 : decode cX12_worthNow 36 = .ok (.ladd, 1) := by decide +kernel
theorem dX12_worthNow_37 : decode cX12_worthNow 37 = .ok (.lstore_n 1, 1) := by decide +kernel
theorem dX12_worthNow_38 : decode cX12_worthNow 38 = .ok (.ldc2_w 322, 3) := by decide +kernel
theorem dX12_worthNow_41 : decode cX12_worthNow 41 = .ok (.lload_n 1, 1) := by decide +kernel
theorem dX12_worthNow_42 : decode cX12_worthNow 42 = .ok (.lmul, 1) := by decide +kernel
theorem dX12_worthNow_43 : decode cX12_worthNow 43 = .ok (.aload_n 0, 1) := by decide +kernel
theorem dX12_worthNow_44 : decode cX12_worthNow 44 = .ok (.getfield 20, 3) := by decide +kernel
theorem dX12_worthNow_47 : decode cX12_worthNow 47 = .ok (.bipush 111, 2) := by decide +kernel
theorem dX12_worthNow_49 : decode cX12_worthNow 49 = .ok (.iaload, 1) := by decide +kernel
theorem dX12_worthNow_50 : decode cX12_worthNow 50 = .ok (.i2l, 1) := by decide +kernel
theorem dX12_worthNow_51 : decode cX12_worthNow 51 = .ok (.ladd, 1) := by decide +kernel
theorem dX12_worthNow_52 : decode cX12_worthNow 52 = .ok (.lstore_n 1, 1) := by decide +kernel
theorem dX12_worthNow_53 : decode cX12_worthNow 53 = .ok (.ldc2_w 324, 3) := by decide +kernel
theorem dX12_worthNow_56 : decode cX12_worthNow 56 = .ok (.lload_n 1, 1) := by decide +kernel
theorem dX12_worthNow_57 : decode cX12_worthNow 57 = .ok (.lmul, 1) := by decide +kernel
theorem dX12_worthNow_58 : decode cX12_worthNow 58 = .ok (.aload_n 0, 1) := by decide +kernel
theorem dX12_worthNow_59 : decode cX12_worthNow 59 = .ok (.getfield 20, 3) := by decide +kernel
theorem dX12_worthNow_62 : decode cX12_worthNow 62 = .ok (.bipush 104, 2) := by decide +kernel
theorem dX12_worthNow_64 : decode cX12_worthNow 64 = .ok (.iaload, 1) := by decide +kernel
theorem dX12_worthNow_65 : decode cX12_worthNow 65 = .ok (.i2l, 1) := by decide +kernel
theorem dX12_worthNow_66 : decode cX12_worthNow 66 = .ok (.ladd, 1) := by decide +kernel
theorem dX12_worthNow_67 : decode cX12_worthNow 67 = .ok (.lstore_n 1, 1) := by decide +kernel
theorem dX12_worthNow_68 : decode cX12_worthNow 68 = .ok (.ldc2_w 324, 3) := by decide +kernel
theorem dX12_worthNow_71 : decode cX12_worthNow 71 = .ok (.lload_n 1, 1) := by decide +kernel
theorem dX12_worthNow_72 : decode cX12_worthNow 72 = .ok (.lmul, 1) := by decide +kernel
theorem dX12_worthNow_73 : decode cX12_worthNow 73 = .ok (.aload_n 0, 1) := by decide +kernel
theorem dX12_worthNow_74 : decode cX12_worthNow 74 = .ok (.getfield 20, 3) := by decide +kernel
theorem dX12_worthNow_77 : decode cX12_worthNow 77 = .ok (.bipush 110, 2) := by decide +kernel
theorem dX12_worthNow_79 : decode cX12_worthNow 79 = .ok (.iaload, 1) := by decide +kernel
theorem dX12_worthNow_80 : decode cX12_worthNow 80 = .ok (.i2l, 1) := by decide +kernel
theorem dX12_worthNow_81 : decode cX12_worthNow 81 = .ok (.ladd, 1) := by decide +kernel
theorem dX12_worthNow_82 : decode cX12_worthNow 82 = .ok (.lstore_n 1, 1) := by decide +kernel
theorem dX12_worthNow_83 : decode cX12_worthNow 83 = .ok (.ldc2_w 324, 3) := by decide +kernel
theorem dX12_worthNow_86 : decode cX12_worthNow 86 = .ok (.lload_n 1, 1) := by decide +kernel
theorem dX12_worthNow_87 : decode cX12_worthNow 87 = .ok (.lmul, 1) := by decide +kernel
theorem dX12_worthNow_88 : decode cX12_worthNow 88 = .ok (.aload_n 0, 1) := by decide +kernel
theorem dX12_worthNow_89 : decode cX12_worthNow 89 = .ok (.getfield 20, 3) := by decide +kernel
theorem dX12_worthNow_92 : decode cX12_worthNow 92 = .ok (.bipush 116, 2) := by decide +kernel
theorem dX12_worthNow_94 : decode cX12_worthNow 94 = .ok (.iaload, 1) := by decide +kernel
theorem dX12_worthNow_95 : decode cX12_worthNow 95 = .ok (.i2l, 1) := by decide +kernel
theorem dX12_worthNow_96 : decode cX12_worthNow 96 = .ok (.ladd, 1) := by decide +kernel
theorem dX12_worthNow_97 : decode cX12_worthNow 97 = .ok (.lstore_n 1, 1) := by decide +kernel
theorem dX12_worthNow_98 : decode cX12_worthNow 98 = .ok (.lload_n 1, 1) := by decide +kernel
theorem dX12_worthNow_99 : decode cX12_worthNow 99 = .ok (.ldc2_w 326, 3) := by decide +kernel
theorem dX12_worthNow_102 : decode cX12_worthNow 102 = .ok (.lrem, 1) := by decide +kernel
theorem dX12_worthNow_103 : decode cX12_worthNow 103 = .ok (.l2i, 1) := by decide +kernel
theorem dX12_worthNow_104 : decode cX12_worthNow 104 = .ok (.istore_n 3, 1) := by decide +kernel
theorem dX12_worthNow_105 : decode cX12_worthNow 105 = .ok (.aload_n 0, 1) := by decide +kernel
theorem dX12_worthNow_106 : decode cX12_worthNow 106 = .ok (.getfield 68, 3) := by decide +kernel
theorem dX12_worthNow_109 : decode cX12_worthNow 109 = .ok (.iload_n 3, 1) := by decide +kernel
theorem dX12_worthNow_110 : decode cX12_worthNow 110 = .ok (.laload, 1) := by decide +kernel
theorem dX12_worthNow_111 : decode cX12_worthNow 111 = .ok (.lload_n 1, 1) := by decide +kernel
theorem dX12_worthNow_112 : decode cX12_worthNow 112 = .ok (.lcmp, 1) := by decide +kernel
theorem dX12_worthNow_113 : decode cX12_worthNow 113 = .ok (.ifCond .ne 10, 3) := by decide +kernel
theorem dX12_worthNow_116 : decode cX12_worthNow 116 = .ok (.aload_n 0, 1) := by decide +kernel
theorem dX12_worthNow_117 : decode cX12_worthNow 117 = .ok (.getfield 72, 3) := by decide +kernel
theorem dX12_worthNow_120 : decode cX12_worthNow 120 = .ok (.iload_n 3, 1) := by decide +kernel
theorem dX12_worthNow_121 : decode cX12_worthNow 121 = .ok (.iaload, 1) := by decide +kernel
theorem dX12_worthNow_122 : decode cX12_worthNow 122 = .ok (.ireturn, 1) := by decide +kernel
theorem dX12_worthNow_123 : decode cX12_worthNow 123 = .ok (.aload_n 0, 1) := by decide +kernel
theorem dX12_worthNow_124 : decode cX12_worthNow 124 = .ok (.aload_n 0, 1) := by decide +kernel
theorem dX12_worthNow_125 : decode cX12_worthNow 125 = .ok (.getfield 13, 3) := by decide +kernel
theorem dX12_worthNow_128 : decode cX12_worthNow 128 = .ok (.sipush 240, 3) := by decide +kernel
theorem dX12_worthNow_131 : decode cX12_worthNow 131 = .ok (.aload_n 0, 1) := by decide +kernel
theorem dX12_worthNow_132 : decode cX12_worthNow 132 = .ok (.getfield 61, 3) := by decide +kernel
theorem dX12_worthNow_135 : decode cX12_worthNow 135 = .ok (.imul, 1) := by decide +kernel
theorem dX12_worthNow_136 : decode cX12_worthNow 136 = .ok (.aload_n 0, 1) := by decide +kernel
theorem dX12_worthNow_137 : decode cX12_worthNow 137 = .ok (.getfield 16, 3) := by decide +kernel
theorem dX12_worthNow_140 : decode cX12_worthNow 140 = .ok (.aload_n 0, 1) := by decide +kernel
theorem dX12_worthNow_141 : decode cX12_worthNow 141 = .ok (.getfield 61, 3) := by decide +kernel
theorem dX12_worthNow_144 : decode cX12_worthNow 144 = .ok (.iaload, 1) := by decide +kernel
theorem dX12_worthNow_145 : decode cX12_worthNow 145 = .ok (.invokevirtual 279, 3) := by decide +kernel
theorem dX12_worthNow_148 : decode cX12_worthNow 148 = .ok (.aload_n 0, 1) := by decide +kernel
theorem dX12_worthNow_149 : decode cX12_worthNow 149 = .ok (.getfield 68, 3) := by decide +kernel
theorem dX12_worthNow_152 : decode cX12_worthNow 152 = .ok (.iload_n 3, 1) := by decide +kernel
theorem dX12_worthNow_153 : decode cX12_worthNow 153 = .ok (.lload_n 1, 1) := by decide +kernel
theorem dX12_worthNow_154 : decode cX12_worthNow 154 = .ok (.lastore, 1) := by decide +kernel
theorem dX12_worthNow_155 : decode cX12_worthNow 155 = .ok (.aload_n 0, 1) := by decide +kernel
theorem dX12_worthNow_156 : decode cX12_worthNow 156 = .ok (.getfield 72, 3) := by decide +kernel
theorem dX12_worthNow_159 : decode cX12_worthNow 159 = .ok (.iload_n 3, 1) := by decide +kernel
theorem dX12_worthNow_160 : decode cX12_worthNow 160 = .ok (.aload_n 0, 1) := by decide +kernel
theorem dX12_worthNow_161 : decode cX12_worthNow 161 = .ok (.getfield 211, 3) := by decide +kernel
theorem dX12_worthNow_164 : decode cX12_worthNow 164 = .ok (.iastore, 1) := by decide +kernel
theorem dX12_worthNow_165 : decode cX12_worthNow 165 = .ok (.aload_n 0, 1) := by decide +kernel
theorem dX12_worthNow_166 : decode cX12_worthNow 166 = .ok (.getfield 211, 3) := by decide +kernel
theorem dX12_worthNow_169 : decode cX12_worthNow 169 = .ok (.ireturn, 1) := by decide +kernel
theorem dX12_trouble_0 : decode cX12_trouble 0 = .ok (.iconst 4, 1) := by decide +kernel
theorem dX12_trouble_1 : decode cX12_trouble 1 = .ok (.iconst 2, 1) := by decide +kernel
theorem dX12_trouble_2 : decode cX12_trouble 2 = .ok (.aload_n 1, 1) := by decide +kernel
theorem dX12_trouble_3 : decode cX12_trouble 3 = .ok (.iconst 3, 1) := by decide +kernel
theorem dX12_trouble_4 : decode cX12_trouble 4 = .ok (.iload_n 2, 1) := by decide +kernel
theorem dX12_trouble_5 : decode cX12_trouble 5 = .ok (.imul, 1) := by decide +kernel
theorem dX12_trouble_6 : decode cX12_trouble 6 = .ok (.iconst 2, 1) := by decide +kernel
theorem dX12_trouble_7 : decode cX12_trouble 7 = .ok (.iadd, 1) := by decide +kernel
theorem dX12_trouble_8 : decode cX12_trouble 8 = .ok (.iaload, 1) := by decide +kernel
theorem dX12_trouble_9 : decode cX12_trouble 9 = .ok (.imul, 1) := by decide +kernel
theorem dX12_trouble_10 : decode cX12_trouble 10 = .ok (.iadd, 1) := by decide +kernel
theorem dX12_trouble_11 : decode cX12_trouble 11 = .ok (.iload 4, 2) := by decide +kernel
theorem dX12_trouble_13 : decode cX12_trouble 13 = .ok (.isub, 1) := by decide +kernel
theorem dX12_trouble_14 : decode cX12_trouble 14 = .ok (.istore 5, 2) := by decide +kernel
theorem dX12_trouble_16 : decode cX12_trouble 16 = .ok (.aload_n 0, 1) := by decide +kernel
theorem dX12_trouble_17 : decode cX12_trouble 17 = .ok (.getfield 61, 3) := by decide +kernel
theorem dX12_trouble_20 : decode cX12_trouble 20 = .ok (.iconst (-1), 1) := by decide +kernel
theorem dX12_trouble_21 : decode cX12_trouble 21 = .ok (.if_icmp .eq 94, 3) := by decide +kernel
theorem dX12_trouble_24 : decode cX12_trouble 24 = .ok (.aload_n 0, 1) := by decide +kernel
theorem dX12_trouble_25 : decode cX12_trouble 25 = .ok (.getfield 20, 3) := by decide +kernel
theorem dX12_trouble_28 : decode cX12_trouble 28 = .ok (.bipush 107, 2) := by decide +kernel
theorem dX12_trouble_30 : decode cX12_trouble 30 = .ok (.aload_n 0, 1) := by decide +kernel
theorem dX12_trouble_31 : decode cX12_trouble 31 = .ok (.iload_n 2, 1) := by decide +kernel
theorem dX12_trouble_32 : decode cX12_trouble 32 = .ok (.iconst 2, 1) := by decide +kernel
theorem dX12_trouble_33 : decode cX12_trouble 33 = .ok (.invokevirtual 305, 3) := by decide +kernel
theorem dX12_trouble_36 : decode cX12_trouble 36 = .ok (.iastore, 1) := by decide +kernel
theorem dX12_trouble_37 : decode cX12_trouble 37 = .ok (.aload_n 0, 1) := by decide +kernel
theorem dX12_trouble_38 : decode cX12_trouble 38 = .ok (.getfield 20, 3) := by decide +kernel
theorem dX12_trouble_41 : decode cX12_trouble 41 = .ok (.bipush 118, 2) := by decide +kernel
theorem dX12_trouble_43 : decode cX12_trouble 43 = .ok (.iload_n 3, 1) := by decide +kernel
theorem dX12_trouble_44 : decode cX12_trouble 44 = .ok (.iastore, 1) := by decide +kernel
theorem dX12_trouble_45 : decode cX12_trouble 45 = .ok (.aload_n 0, 1) := by decide +kernel
theorem dX12_trouble_46 : decode cX12_trouble 46 = .ok (.getfield 20, 3) := by decide +kernel
theorem dX12_trouble_49 : decode cX12_trouble 49 = .ok (.bipush 111, 2) := by decide +kernel
theorem dX12_trouble_51 : decode cX12_trouble 51 = .ok (.aload_n 1, 1) := by decide +kernel
theorem dX12_trouble_52 : decode cX12_trouble 52 = .ok (.iconst 3, 1) := by decide +kernel
theorem dX12_trouble_53 : decode cX12_trouble 53 = .ok (.iload_n 2, 1) := by decide +kernel
theorem dX12_trouble_54 : decode cX12_trouble 54 = .ok (.imul, 1) := by decide +kernel
theorem dX12_trouble_55 : decode cX12_trouble 55 = .ok (.iconst 1, 1) := by decide +kernel
theorem dX12_trouble_56 : decode cX12_trouble 56 = .ok (.iadd, 1) := by decide +kernel
theorem dX12_trouble_57 : decode cX12_trouble 57 = .ok (.iaload, 1) := by decide +kernel
theorem dX12_trouble_58 : decode cX12_trouble 58 = .ok (.iastore, 1) := by decide +kernel
theorem dX12_trouble_59 : decode cX12_trouble 59 = .ok (.aload_n 0, 1) := by decide +kernel
theorem dX12_trouble_60 : decode cX12_trouble 60 = .ok (.getfield 20, 3) := by decide +kernel
theorem dX12_trouble_63 : decode cX12_trouble 63 = .ok (.bipush 104, 2) := by decide +kernel
theorem dX12_trouble_65 : decode cX12_trouble 65 = .ok (.aload_n 1, 1) := by decide +kernel
theorem dX12_trouble_66 : decode cX12_trouble 66 = .ok (.bipush 21, 2) := by decide +kernel
theorem dX12_trouble_68 : decode cX12_trouble 68 = .ok (.iaload, 1) := by decide +kernel
theorem dX12_trouble_69 : decode cX12_trouble 69 = .ok (.aload_n 0, 1) := by decide +kernel
theorem dX12_trouble_70 : decode cX12_trouble 70 = .ok (.aload_n 1, 1) := by decide +kernel
theorem dX12_trouble_71 : decode cX12_trouble 71 = .ok (.iload_n 2, 1) := by decide +kernel
theorem dX12_trouble_72 : decode cX12_trouble 72 = .ok (.invokevirtual 328, 3) := by decide +kernel
theorem dX12_trouble_75 : decode cX12_trouble 75 = .ok (.iadd, 1) := by decide +kernel
theorem dX12_trouble_76 : decode cX12_trouble 76 = .ok (.iastore, 1) := by decide +kernel
theorem dX12_trouble_77 : decode cX12_trouble 77 = .ok (.aload_n 0, 1) := by decide +kernel
theorem dX12_trouble_78 : decode cX12_trouble 78 = .ok (.getfield 20, 3) := by decide +kernel
theorem dX12_trouble_81 : decode cX12_trouble 81 = .ok (.bipush 110, 2) := by decide +kernel
theorem dX12_trouble_83 : decode cX12_trouble 83 = .ok (.aload_n 1, 1) := by decide +kernel
theorem dX12_trouble_84 : decode cX12_trouble 84 = .ok (.iconst 3, 1) := by decide +kernel
theorem dX12_trouble_85 : decode cX12_trouble 85 = .ok (.iload_n 2, 1) := by decide +kernel
theorem dX12_trouble_86 : decode cX12_trouble 86 = .ok (.imul, 1) := by decide +kernel
theorem dX12_trouble_87 : decode cX12_trouble 87 = .ok (.iconst 2, 1) := by decide +kernel
theorem dX12_trouble_88 : decode cX12_trouble 88 = .ok (.iadd, 1) := by decide +kernel
theorem dX12_trouble_89 : decode cX12_trouble 89 = .ok (.iaload, 1) := by decide +kernel
theorem dX12_trouble_90 : decode cX12_trouble 90 = .ok (.iastore, 1) := by decide +kernel
theorem dX12_trouble_91 : decode cX12_trouble 91 = .ok (.aload_n 0, 1) := by decide +kernel
theorem dX12_trouble_92 : decode cX12_trouble 92 = .ok (.getfield 20, 3) := by decide +kernel
theorem dX12_trouble_95 : decode cX12_trouble 95 = .ok (.bipush 116, 2) := by decide +kernel
theorem dX12_trouble_97 : decode cX12_trouble 97 = .ok (.aload_n 1, 1) := by decide +kernel
theorem dX12_trouble_98 : decode cX12_trouble 98 = .ok (.bipush 22, 2) := by decide +kernel
theorem dX12_trouble_100 : decode cX12_trouble 100 = .ok (.iaload, 1) := by decide +kernel
theorem dX12_trouble_101 : decode cX12_trouble 101 = .ok (.aload_n 0, 1) := by decide +kernel
theorem dX12_trouble_102 : decode cX12_trouble 102 = .ok (.aload_n 1, 1) := by decide +kernel
theorem dX12_trouble_103 : decode cX12_trouble 103 = .ok (.iload_n 2, 1) := by decide +kernel
theorem dX12_trouble_104 : decode cX12_trouble 104 = .ok (.invokevirtual 328, 3) := by decide +kernel
theorem dX12_trouble_107 : decode cX12_trouble 107 = .ok (.iadd, 1) := by decide +kernel
theorem dX12_trouble_108 : decode cX12_trouble 108 = .ok (.iastore, 1) := by decide +kernel
theorem dX12_trouble_109 : decode cX12_trouble 109 = .ok (.aload_n 0, 1) := by decide +kernel
theorem dX12_trouble_110 : decode cX12_trouble 110 = .ok (.invokevirtual 332, 3) := by decide +kernel
theorem dX12_trouble_113 : decode cX12_trouble 113 = .ok (.istore 5, 2) := by decide +kernel
theorem dX12_trouble_115 : decode cX12_trouble 115 = .ok (.iconst 0, 1) := by decide +kernel
theorem dX12_trouble_116 : decode cX12_trouble 116 = .ok (.bipush 30, 2) := by decide +kernel
theorem dX12_trouble_118 : decode cX12_trouble 118 = .ok (.iload 5, 2) := by decide +kernel
theorem dX12_trouble_120 : decode cX12_trouble 120 = .ok (.invokestatic 335, 3) := by decide +kernel
theorem dX12_trouble_123 : decode cX12_trouble 123 = .ok (.invokestatic 337, 3) := by decide +kernel
theorem dX12_trouble_126 : decode cX12_trouble 126 = .ok (.ireturn, 1) := by decide +kernel
theorem dX12_canWalk_0 : decode cX12_canWalk 0 = .ok (.aload_n 0, 1) := by decide +kernel
theorem dX12_canWalk_1 : decode cX12_canWalk 1 = .ok (.iload_n 2, 1) := by decide +kernel
theorem dX12_canWalk_2 : decode cX12_canWalk 2 = .ok (.invokevirtual 339, 3) := by decide +kernel
theorem dX12_canWalk_5 : decode cX12_canWalk 5 = .ok (.ifCond .eq 57, 3) := by decide +kernel
theorem dX12_canWalk_8 : decode cX12_canWalk 8 = .ok (.aload_n 1, 1) := by decide +kernel
theorem dX12_canWalk_9 : decode cX12_canWalk 9 = .ok (.invokestatic 311, 3) := by decide +kernel
theorem dX12_canWalk_12 : decode cX12_canWalk 12 = .ok (.iload_n 2, 1) := by decide +kernel
theorem dX12_canWalk_13 : decode cX12_canWalk 13 = .ok (.if_icmp .eq 49, 3) := by decide +kernel
theorem dX12_canWalk_16 : decode cX12_canWalk 16 = .ok (.aload_n 1, 1) := by decide +kernel
theorem dX12_canWalk_17 : decode cX12_canWalk 17 = .ok (.bipush 22, 2) := by decide +kernel
theorem dX12_canWalk_19 : decode cX12_canWalk 19 = .ok (.iaload, 1) := by decide +kernel
theorem dX12_canWalk_20 : decode cX12_canWalk 20 = .ok (.aload_n 0, 1) := by decide +kernel
theorem dX12_canWalk_21 : decode cX12_canWalk 21 = .ok (.aload_n 1, 1) := by decide +kernel
theorem dX12_canWalk_22 : decode cX12_canWalk 22 = .ok (.iload_n 2, 1) := by decide +kernel
theorem dX12_canWalk_23 : decode cX12_canWalk 23 = .ok (.invokevirtual 328, 3) := by decide +kernel
theorem dX12_canWalk_26 : decode cX12_canWalk 26 = .ok (.iadd, 1) := by decide +kernel
theorem dX12_canWalk_27 : decode cX12_canWalk 27 = .ok (.aload_n 0, 1) := by decide +kernel
theorem dX12_canWalk_28 : decode cX12_canWalk 28 = .ok (.getfield 37, 3) := by decide +kernel
theorem dX12_canWalk_31 : decode cX12_canWalk 31 = .ok (.iconst 0, 1) := by decide +kernel
theorem dX12_canWalk_32 : decode cX12_canWalk 32 = .ok (.iaload, 1) := by decide +kernel
theorem dX12_canWalk_33 : decode cX12_canWalk 33 = .ok (.if_icmp .gt 29, 3) := by decide +kernel
theorem dX12_canWalk_36 : decode cX12_canWalk 36 = .ok (.aload_n 1, 1) := by decide +kernel
theorem dX12_canWalk_37 : decode cX12_canWalk 37 = .ok (.bipush 21, 2) := by decide +kernel
theorem dX12_canWalk_39 : decode cX12_canWalk 39 = .ok (.iaload, 1) := by decide +kernel
theorem dX12_canWalk_40 : decode cX12_canWalk 40 = .ok (.aload_n 0, 1) := by decide +kernel
theorem dX12_canWalk_41 : decode cX12_canWalk 41 = .ok (.aload_n 1, 1) := by decide +kernel
theorem dX12_canWalk_42 : decode cX12_canWalk 42 = .ok (.iload_n 2, 1) := by decide +kernel
theorem dX12_canWalk_43 : decode cX12_canWalk 43 = .ok (.invokevirtual 328, 3) := by decide +kernel
theorem dX12_canWalk_46 : decode cX12_canWalk 46 = .ok (.iadd, 1) := by decide +kernel
theorem dX12_canWalk_47 : decode cX12_canWalk 47 = .ok (.iconst 1, 1) := by decide +kernel
theorem dX12_canWalk_48 : decode cX12_canWalk 48 = .ok (.iadd, 1) := by decide +kernel
theorem dX12_canWalk_49 : decode cX12_canWalk 49 = .ok (.aload_n 0, 1) := by decide +kernel
theorem dX12_canWalk_50 : decode cX12_canWalk 50 = .ok (.getfield 37, 3) := by decide +kernel
theorem dX12_canWalk_53 : decode cX12_canWalk 53 = .ok (.iconst 1, 1) := by decide +kernel
theorem dX12_canWalk_54 : decode cX12_canWalk 54 = .ok (.iaload, 1) := by decide +kernel
theorem dX12_canWalk_55 : decode cX12_canWalk 55 = .ok (.if_icmp .gt 7, 3) := by decide +kernel
theorem dX12_canWalk_58 : decode cX12_canWalk 58 = .ok (.iconst 1, 1) := by decide +kernel
theorem dX12_canWalk_59 : decode cX12_canWalk 59 = .ok (.goto 4, 3) := by decide +kernel
theorem dX12_canWalk_62 : decode cX12_canWalk 62 = .ok (.iconst 0, 1) := by decide +kernel
theorem dX12_canWalk_63 : decode cX12_canWalk 63 = .ok (.ireturn, 1) := by decide +kernel
theorem dX12_walks_0 : decode cX12_walks 0 = .ok (.aload_n 0, 1) := by decide +kernel
theorem dX12_walks_1 : decode cX12_walks 1 = .ok (.aload_n 1, 1) := by decide +kernel
theorem dX12_walks_2 : decode cX12_walks 2 = .ok (.iload_n 2, 1) := by decide +kernel
theorem dX12_walks_3 : decode cX12_walks 3 = .ok (.aload_n 0, 1) := by decide +kernel
theorem dX12_walks_4 : decode cX12_walks 4 = .ok (.iload_n 2, 1) := by decide +kernel
theorem dX12_walks_5 : decode cX12_walks 5 = .ok (.iconst 3, 1) := by decide +kernel
theorem dX12_walks_6 : decode cX12_walks 6 = .ok (.invokevirtual 305, 3) := by decide +kernel
theorem dX12_walks_9 : decode cX12_walks 9 = .ok (.iload_n 3, 1) := by decide +kernel
theorem dX12_walks_10 : decode cX12_walks 10 = .ok (.invokevirtual 342, 3) := by decide +kernel
theorem dX12_walks_13 : decode cX12_walks 13 = .ok (.istore 4, 2) := by decide +kernel
theorem dX12_walks_15 : decode cX12_walks 15 = .ok (.aload_n 0, 1) := by decide +kernel
theorem dX12_walks_16 : decode cX12_walks 16 = .ok (.aload_n 1, 1) := by decide +kernel
theorem dX12_walks_17 : decode cX12_walks 17 = .ok (.iload_n 2, 1) := by decide +kernel
theorem dX12_walks_18 : decode cX12_walks 18 = .ok (.invokevirtual 328, 3) := by decide +kernel
theorem dX12_walks_21 : decode cX12_walks 21 = .ok (.istore 5, 2) := by decide +kernel
theorem dX12_walks_23 : decode cX12_walks 23 = .ok (.aload_n 1, 1) := by decide +kernel
theorem dX12_walks_24 : decode cX12_walks 24 = .ok (.bipush 22, 2) := by decide +kernel
theorem dX12_walks_26 : decode cX12_walks 26 = .ok (.dup2, 1) := by decide +kernel
theorem dX12_walks_27 : decode cX12_walks 27 = .ok (.iaload, 1) := by decide +kernel
theorem dX12_walks_28 : decode cX12_walks 28 = .ok (.iload 5, 2) := by decide +kernel
theorem dX12_walks_30 : decode cX12_walks 30 = .ok (.iadd, 1) := by decide +kernel
theorem dX12_walks_31 : decode cX12_walks 31 = .ok (.iastore, 1) := by decide +kernel
theorem dX12_walks_32 : decode cX12_walks 32 = .ok (.aload_n 1, 1) := by decide +kernel
theorem dX12_walks_33 : decode cX12_walks 33 = .ok (.bipush 21, 2) := by decide +kernel
theorem dX12_walks_35 : decode cX12_walks 35 = .ok (.dup2, 1) := by decide +kernel
theorem dX12_walks_36 : decode cX12_walks 36 = .ok (.iaload, 1) := by decide +kernel
theorem dX12_walks_37 : decode cX12_walks 37 = .ok (.iload 5, 2) := by decide +kernel
theorem dX12_walks_39 : decode cX12_walks 39 = .ok (.iconst 1, 1) := by decide +kernel
theorem dX12_walks_40 : decode cX12_walks 40 = .ok (.iadd, 1) := by decide +kernel
theorem dX12_walks_41 : decode cX12_walks 41 = .ok (.iadd, 1) := by decide +kernel
theorem dX12_walks_42 : decode cX12_walks 42 = .ok (.iastore, 1) := by decide +kernel
theorem dX12_walks_43 : decode cX12_walks 43 = .ok (.aload_n 1, 1) := by decide +kernel
theorem dX12_walks_44 : decode cX12_walks 44 = .ok (.bipush 23, 2) := by decide +kernel
theorem dX12_walks_46 : decode cX12_walks 46 = .ok (.iload_n 2, 1) := by decide +kernel
theorem dX12_walks_47 : decode cX12_walks 47 = .ok (.iconst 1, 1) := by decide +kernel
theorem dX12_walks_48 : decode cX12_walks 48 = .ok (.iadd, 1) := by decide +kernel
theorem dX12_walks_49 : decode cX12_walks 49 = .ok (.iastore, 1) := by decide +kernel
theorem dX12_walks_50 : decode cX12_walks 50 = .ok (.aload_n 1, 1) := by decide +kernel
theorem dX12_walks_51 : decode cX12_walks 51 = .ok (.iconst 3, 1) := by decide +kernel
theorem dX12_walks_52 : decode cX12_walks 52 = .ok (.iload_n 2, 1) := by decide +kernel
theorem dX12_walks_53 : decode cX12_walks 53 = .ok (.imul, 1) := by decide +kernel
theorem dX12_walks_54 : decode cX12_walks 54 = .ok (.iconst 0, 1) := by decide +kernel
theorem dX12_walks_55 : decode cX12_walks 55 = .ok (.iadd, 1) := by decide +kernel
theorem dX12_walks_56 : decode cX12_walks 56 = .ok (.dup2, 1) := by decide +kernel
theorem dX12_walks_57 : decode cX12_walks 57 = .ok (.iaload, 1) := by decide +kernel
theorem dX12_walks_58 : decode cX12_walks 58 = .ok (.iload 4, 2) := by decide +kernel
theorem dX12_walks_60 : decode cX12_walks 60 = .ok (.iadd, 1) := by decide +kernel
theorem dX12_walks_61 : decode cX12_walks 61 = .ok (.iastore, 1) := by decide +kernel
theorem dX12_walks_62 : decode cX12_walks 62 = .ok (.aload_n 1, 1) := by decide +kernel
theorem dX12_walks_63 : decode cX12_walks 63 = .ok (.iconst 3, 1) := by decide +kernel
theorem dX12_walks_64 : decode cX12_walks 64 = .ok (.iload_n 2, 1) := by decide +kernel
theorem dX12_walks_65 : decode cX12_walks 65 = .ok (.imul, 1) := by decide +kernel
theorem dX12_walks_66 : decode cX12_walks 66 = .ok (.iconst 2, 1) := by decide +kernel
theorem dX12_walks_67 : decode cX12_walks 67 = .ok (.iadd, 1) := by decide +kernel
theorem dX12_walks_68 : decode cX12_walks 68 = .ok (.iaload, 1) := by decide +kernel
theorem dX12_walks_69 : decode cX12_walks 69 = .ok (.ifCond .ne 29, 3) := by decide +kernel
theorem dX12_walks_72 : decode cX12_walks 72 = .ok (.aload_n 1, 1) := by decide +kernel
theorem dX12_walks_73 : decode cX12_walks 73 = .ok (.bipush 24, 2) := by decide +kernel
theorem dX12_walks_75 : decode cX12_walks 75 = .ok (.dup2, 1) := by decide +kernel
theorem dX12_walks_76 : decode cX12_walks 76 = .ok (.iaload, 1) := by decide +kernel
theorem dX12_walks_77 : decode cX12_walks 77 = .ok (.aload_n 0, 1) := by decide +kernel
theorem dX12_walks_78 : decode cX12_walks 78 = .ok (.iload_n 2, 1) := by decide +kernel
theorem dX12_walks_79 : decode cX12_walks 79 = .ok (.iconst 3, 1) := by decide +kernel
theorem dX12_walks_80 : decode cX12_walks 80 = .ok (.invokevirtual 305, 3) := by decide +kernel
theorem dX12_walks_83 : decode cX12_walks 83 = .ok (.iadd, 1) := by decide +kernel
theorem dX12_walks_84 : decode cX12_walks 84 = .ok (.iastore, 1) := by decide +kernel
theorem dX12_walks_85 : decode cX12_walks 85 = .ok (.aload_n 1, 1) := by decide +kernel
theorem dX12_walks_86 : decode cX12_walks 86 = .ok (.bipush 25, 2) := by decide +kernel
theorem dX12_walks_88 : decode cX12_walks 88 = .ok (.dup2, 1) := by decide +kernel
theorem dX12_walks_89 : decode cX12_walks 89 = .ok (.iaload, 1) := by decide +kernel
theorem dX12_walks_90 : decode cX12_walks 90 = .ok (.aload_n 0, 1) := by decide +kernel
theorem dX12_walks_91 : decode cX12_walks 91 = .ok (.iload_n 2, 1) := by decide +kernel
theorem dX12_walks_92 : decode cX12_walks 92 = .ok (.iconst 3, 1) := by decide +kernel
theorem dX12_walks_93 : decode cX12_walks 93 = .ok (.invokevirtual 305, 3) := by decide +kernel
theorem dX12_walks_96 : decode cX12_walks 96 = .ok (.iadd, 1) := by decide +kernel
theorem dX12_walks_97 : decode cX12_walks 97 = .ok (.iastore, 1) := by decide +kernel
theorem dX12_walks_98 : decode cX12_walks 98 = .ok (.aload_n 1, 1) := by decide +kernel
theorem dX12_walks_99 : decode cX12_walks 99 = .ok (.iconst 3, 1) := by decide +kernel
theorem dX12_walks_100 : decode cX12_walks 100 = .ok (.iload_n 2, 1) := by decide +kernel
theorem dX12_walks_101 : decode cX12_walks 101 = .ok (.imul, 1) := by decide +kernel
theorem dX12_walks_102 : decode cX12_walks 102 = .ok (.iconst 2, 1) := by decide +kernel
theorem dX12_walks_103 : decode cX12_walks 103 = .ok (.iadd, 1) := by decide +kernel
theorem dX12_walks_104 : decode cX12_walks 104 = .ok (.dup2, 1) := by decide +kernel
theorem dX12_walks_105 : decode cX12_walks 105 = .ok (.iaload, 1) := by decide +kernel
theorem dX12_walks_106 : decode cX12_walks 106 = .ok (.iconst 1, 1) := by decide +kernel
theorem dX12_walks_107 : decode cX12_walks 107 = .ok (.iadd, 1) := by decide +kernel
theorem dX12_walks_108 : decode cX12_walks 108 = .ok (.iastore, 1) := by decide +kernel
theorem dX12_walks_109 : decode cX12_walks 109 = .ok (.aload_n 1, 1) := by decide +kernel
theorem dX12_walks_110 : decode cX12_walks 110 = .ok (.bipush 26, 2) := by decide +kernel
theorem dX12_walks_112 : decode cX12_walks 112 = .ok (.dup2, 1) := by decide +kernel
theorem dX12_walks_113 : decode cX12_walks 113 = .ok (.iaload, 1) := by decide +kernel
theorem dX12_walks_114 : decode cX12_walks 114 = .ok (.iconst 1, 1) := by decide +kernel
theorem dX12_walks_115 : decode cX12_walks 115 = .ok (.iload_n 2, 1) := by decide +kernel
theorem dX12_walks_116 : decode cX12_walks 116 = .ok (.ishl, 1) := by decide +kernel
theorem dX12_walks_117 : decode cX12_walks 117 = .ok (.ior, 1) := by decide +kernel
theorem dX12_walks_118 : decode cX12_walks 118 = .ok (.iastore, 1) := by decide +kernel
theorem dX12_walks_119 : decode cX12_walks 119 = .ok (.iload 4, 2) := by decide +kernel
theorem dX12_walks_121 : decode cX12_walks 121 = .ok (.ireturn, 1) := by decide +kernel
theorem dX12_canRest_0 : decode cX12_canRest 0 = .ok (.aload_n 1, 1) := by decide +kernel
theorem dX12_canRest_1 : decode cX12_canRest 1 = .ok (.bipush 22, 2) := by decide +kernel
theorem dX12_canRest_3 : decode cX12_canRest 3 = .ok (.iaload, 1) := by decide +kernel
theorem dX12_canRest_4 : decode cX12_canRest 4 = .ok (.ifCond .le 20, 3) := by decide +kernel
theorem dX12_canRest_7 : decode cX12_canRest 7 = .ok (.aload_n 1, 1) := by decide +kernel
theorem dX12_canRest_8 : decode cX12_canRest 8 = .ok (.bipush 21, 2) := by decide +kernel
theorem dX12_canRest_10 : decode cX12_canRest 10 = .ok (.iaload, 1) := by decide +kernel
theorem dX12_canRest_11 : decode cX12_canRest 11 = .ok (.aload_n 0, 1) := by decide +kernel
theorem dX12_canRest_12 : decode cX12_canRest 12 = .ok (.getfield 37, 3) := by decide +kernel
theorem dX12_canRest_15 : decode cX12_canRest 15 = .ok (.iconst 1, 1) := by decide +kernel
theorem dX12_canRest_16 : decode cX12_canRest 16 = .ok (.iaload, 1) := by decide +kernel
theorem dX12_canRest_17 : decode cX12_canRest 17 = .ok (.if_icmp .ge 7, 3) := by decide +kernel
theorem dX12_canRest_20 : decode cX12_canRest 20 = .ok (.iconst 1, 1) := by decide +kernel
theorem dX12_canRest_21 : decode cX12_canRest 21 = .ok (.goto 4, 3) := by decide +kernel
theorem dX12_canRest_24 : decode cX12_canRest 24 = .ok (.iconst 0, 1) := by decide +kernel
theorem dX12_canRest_25 : decode cX12_canRest 25 = .ok (.ireturn, 1) := by decide +kernel
theorem dX12_sitsDown_0 : decode cX12_sitsDown 0 = .ok (.aload_n 0, 1) := by decide +kernel
theorem dX12_sitsDown_1 : decode cX12_sitsDown 1 = .ok (.bipush 21, 2) := by decide +kernel
theorem dX12_sitsDown_3 : decode cX12_sitsDown 3 = .ok (.dup2, 1) := by decide +kernel
theorem dX12_sitsDown_4 : decode cX12_sitsDown 4 = .ok (.iaload, 1) := by decide +kernel
theorem dX12_sitsDown_5 : decode cX12_sitsDown 5 = .ok (.iconst 1, 1) := by decide +kernel
theorem dX12_sitsDown_6 : decode cX12_sitsDown 6 = .ok (.iadd, 1) := by decide +kernel
theorem dX12_sitsDown_7 : decode cX12_sitsDown 7 = .ok (.iastore, 1) := by decide +kernel
theorem dX12_sitsDown_8 : decode cX12_sitsDown 8 = .ok (.aload_n 0, 1) := by decide +kernel
theorem dX12_sitsDown_9 : decode cX12_sitsDown 9 = .ok (.bipush 22, 2) := by decide +kernel
theorem dX12_sitsDown_11 : decode cX12_sitsDown 11 = .ok (.iconst 0, 1) := by decide +kernel
theorem dX12_sitsDown_12 : decode cX12_sitsDown 12 = .ok (.aload_n 0, 1) := by decide +kernel
theorem dX12_sitsDown_13 : decode cX12_sitsDown 13 = .ok (.bipush 22, 2) := by decide +kernel
theorem dX12_sitsDown_15 : decode cX12_sitsDown 15 = .ok (.iaload, 1) := by decide +kernel
theorem dX12_sitsDown_16 : decode cX12_sitsDown 16 = .ok (.iconst 3, 1) := by decide +kernel
theorem dX12_sitsDown_17 : decode cX12_sitsDown 17 = .ok (.isub, 1) := by decide +kernel
theorem dX12_sitsDown_18 : decode cX12_sitsDown 18 = .ok (.invokestatic 337, 3) := by decide +kernel
theorem dX12_sitsDown_21 : decode cX12_sitsDown 21 = .ok (.iastore, 1) := by decide +kernel
theorem dX12_sitsDown_22 : decode cX12_sitsDown 22 = .ok (.return_, 1) := by decide +kernel
theorem dX12_tooMuch_0 : decode cX12_tooMuch 0 = .ok (.iconst 0, 1) := by decide +kernel
theorem dX12_tooMuch_1 : decode cX12_tooMuch 1 = .ok (.istore_n 2, 1) := by decide +kernel
theorem dX12_tooMuch_2 : decode cX12_tooMuch 2 = .ok (.iconst 0, 1) := by decide +kernel
theorem dX12_tooMuch_3 : decode cX12_tooMuch 3 = .ok (.istore_n 3, 1) := by decide +kernel
theorem dX12_tooMuch_4 : decode cX12_tooMuch 4 = .ok (.iload_n 3, 1) := by decide +kernel
theorem dX12_tooMuch_5 : decode cX12_tooMuch 5 = .ok (.aload_n 0, 1) := by decide +kernel
theorem dX12_tooMuch_6 : decode cX12_tooMuch 6 = .ok (.getfield 293, 3) := by decide +kernel
theorem dX12_tooMuch_9 : decode cX12_tooMuch 9 = .ok (.if_icmp .ge 36, 3) := by decide +kernel
theorem dX12_tooMuch_12 : decode cX12_tooMuch 12 = .ok (.iload_n 2, 1) := by decide +kernel
theorem dX12_tooMuch_13 : decode cX12_tooMuch 13 = .ok (.aload_n 1, 1) := by decide +kernel
theorem dX12_tooMuch_14 : decode cX12_tooMuch 14 = .ok (.iconst 3, 1) := by decide +kernel
theorem dX12_tooMuch_15 : decode cX12_tooMuch 15 = .ok (.iload_n 3, 1) := by decide +kernel
theorem dX12_tooMuch_16 : decode cX12_tooMuch 16 = .ok (.imul, 1) := by decide +kernel
theorem dX12_tooMuch_17 : decode cX12_tooMuch 17 = .ok (.iconst 0, 1) := by decide +kernel
theorem dX12_tooMuch_18 : decode cX12_tooMuch 18 = .ok (.iadd, 1) := by decide +kernel
theorem dX12_tooMuch_19 : decode cX12_tooMuch 19 = .ok (.iaload, 1) := by decide +kernel
theorem dX12_tooMuch_20 : decode cX12_tooMuch 20 = .ok (.aload_n 1, 1) := by decide +kernel
theorem dX12_tooMuch_21 : decode cX12_tooMuch 21 = .ok (.iconst 3, 1) := by decide +kernel
theorem dX12_tooMuch_22 : decode cX12_tooMuch 22 = .ok (.iload_n 3, 1) := by decide +kernel
theorem dX12_tooMuch_23 : decode cX12_tooMuch 23 = .ok (.imul, 1) := by decide +kernel
theorem dX12_tooMuch_24 : decode cX12_tooMuch 24 = .ok (.iconst 1, 1) := by decide +kernel
theorem dX12_tooMuch_25 : decode cX12_tooMuch 25 = .ok (.iadd, 1) := by decide +kernel
theorem dX12_tooMuch_26 : decode cX12_tooMuch 26 = .ok (.iaload, 1) := by decide +kernel
theorem dX12_tooMuch_27 : decode cX12_tooMuch 27 = .ok (.if_icmp .le 9, 3) := by decide +kernel
theorem dX12_tooMuch_30 : decode cX12_tooMuch 30 = .ok (.iconst 1, 1) := by decide +kernel
theorem dX12_tooMuch_31 : decode cX12_tooMuch 31 = .ok (.iload_n 3, 1) := by decide +kernel
theorem dX12_tooMuch_32 : decode cX12_tooMuch 32 = .ok (.ishl, 1) := by decide +kernel
theorem dX12_tooMuch_33 : decode cX12_tooMuch 33 = .ok (.goto 4, 3) := by decide +kernel
theorem dX12_tooMuch_36 : decode cX12_tooMuch 36 = .ok (.iconst 0, 1) := by decide +kernel
theorem dX12_tooMuch_37 : decode cX12_tooMuch 37 = .ok (.ior, 1) := by decide +kernel
theorem dX12_tooMuch_38 : decode cX12_tooMuch 38 = .ok (.istore_n 2, 1) := by decide +kernel
theorem dX12_tooMuch_39 : decode cX12_tooMuch 39 = .ok (.iinc 3 1, 3) := by decide +kernel
theorem dX12_tooMuch_42 : decode cX12_tooMuch 42 = .ok (.goto (-38), 3) := by decide +kernel
theorem dX12_tooMuch_45 : decode cX12_tooMuch 45 = .ok (.iload_n 2, 1) := by decide +kernel
theorem dX12_tooMuch_46 : decode cX12_tooMuch 46 = .ok (.ireturn, 1) := by decide +kernel
theorem dX12_goDay_0 : decode cX12_goDay 0 = .ok (.aload_n 1, 1) := by decide +kernel
theorem dX12_goDay_1 : decode cX12_goDay 1 = .ok (.bipush 28, 2) := by decide +kernel
theorem dX12_goDay_3 : decode cX12_goDay 3 = .ok (.iaload, 1) := by decide +kernel
theorem dX12_goDay_4 : decode cX12_goDay 4 = .ok (.bipush 60, 2) := by decide +kernel
theorem dX12_goDay_6 : decode cX12_goDay 6 = .ok (.if_icmp .ne 40, 3) := by decide +kernel
theorem dX12_goDay_9 : decode cX12_goDay 9 = .ok (.iconst 1, 1) := by decide +kernel
theorem dX12_goDay_10 : decode cX12_goDay 10 = .ok (.istore_n 2, 1) := by decide +kernel
theorem dX12_goDay_11 : decode cX12_goDay 11 = .ok (.iload_n 2, 1) := by decide +kernel
theorem dX12_goDay_12 : decode cX12_goDay 12 = .ok (.sipush 177, 3) := by decide +kernel
theorem dX12_goDay_15 : decode cX12_goDay 15 = .ok (.if_icmp .gt 23, 3) := by decide +kernel
theorem dX12_goDay_18 : decode cX12_goDay 18 = .ok (.aload_n 1, 1) := by decide +kernel
theorem dX12_goDay_19 : decode cX12_goDay 19 = .ok (.bipush 28, 2) := by decide +kernel
theorem dX12_goDay_21 : decode cX12_goDay 21 = .ok (.iload_n 2, 1) := by decide +kernel
theorem dX12_goDay_22 : decode cX12_goDay 22 = .ok (.iadd, 1) := by decide +kernel
theorem dX12_goDay_23 : decode cX12_goDay 23 = .ok (.aload_n 1, 1) := by decide +kernel
theorem dX12_goDay_24 : decode cX12_goDay 24 = .ok (.bipush 28, 2) := by decide +kernel
theorem dX12_goDay_26 : decode cX12_goDay 26 = .ok (.iload_n 2, 1) := by decide +kernel
theorem dX12_goDay_27 : decode cX12_goDay 27 = .ok (.iadd, 1) := by decide +kernel
theorem dX12_goDay_28 : decode cX12_goDay 28 = .ok (.iconst 3, 1) := by decide +kernel
theorem dX12_goDay_29 : decode cX12_goDay 29 = .ok (.iadd, 1) := by decide +kernel
theorem dX12_goDay_30 : decode cX12_goDay 30 = .ok (.iaload, 1) := by decide +kernel
theorem dX12_goDay_31 : decode cX12_goDay 31 = .ok (.iastore, 1) := by decide +kernel
theorem dX12_goDay_32 : decode cX12_goDay 32 = .ok (.iinc 2 1, 3) := by decide +kernel
theorem dX12_goDay_35 : decode cX12_goDay 35 = .ok (.goto (-24), 3) := by decide +kernel
theorem dX12_goDay_38 : decode cX12_goDay 38 = .ok (.aload_n 1, 1) := by decide +kernel
theorem dX12_goDay_39 : decode cX12_goDay 39 = .ok (.bipush 28, 2) := by decide +kernel
theorem dX12_goDay_41 : decode cX12_goDay 41 = .ok (.dup2, 1) := by decide +kernel
theorem dX12_goDay_42 : decode cX12_goDay 42 = .ok (.iaload, 1) := by decide +kernel
theorem dX12_goDay_43 : decode cX12_goDay 43 = .ok (.iconst 1, 1) := by decide +kernel
theorem dX12_goDay_44 : decode cX12_goDay 44 = .ok (.isub, 1) := by decide +kernel
theorem dX12_goDay_45 : decode cX12_goDay 45 = .ok (.iastore, 1) := by decide +kernel
theorem dX12_goDay_46 : decode cX12_goDay 46 = .ok (.bipush 29, 2) := by decide +kernel
theorem dX12_goDay_48 : decode cX12_goDay 48 = .ok (.iconst 3, 1) := by decide +kernel
theorem dX12_goDay_49 : decode cX12_goDay 49 = .ok (.aload_n 1, 1) := by decide +kernel
theorem dX12_goDay_50 : decode cX12_goDay 50 = .ok (.bipush 28, 2) := by decide +kernel
theorem dX12_goDay_52 : decode cX12_goDay 52 = .ok (.iaload, 1) := by decide +kernel
theorem dX12_goDay_53 : decode cX12_goDay 53 = .ok (.imul, 1) := by decide +kernel
theorem dX12_goDay_54 : decode cX12_goDay 54 = .ok (.iadd, 1) := by decide +kernel
theorem dX12_goDay_55 : decode cX12_goDay 55 = .ok (.istore_n 2, 1) := by decide +kernel
theorem dX12_goDay_56 : decode cX12_goDay 56 = .ok (.aload_n 1, 1) := by decide +kernel
theorem dX12_goDay_57 : decode cX12_goDay 57 = .ok (.iload_n 2, 1) := by decide +kernel
theorem dX12_goDay_58 : decode cX12_goDay 58 = .ok (.aload_n 1, 1) := by decide +kernel
theorem dX12_goDay_59 : decode cX12_goDay 59 = .ok (.bipush 21, 2) := by decide +kernel
theorem dX12_goDay_61 : decode cX12_goDay 61 = .ok (.iaload, 1) := by decide +kernel
theorem dX12_goDay_62 : decode cX12_goDay 62 = .ok (.iastore, 1) := by decide +kernel
theorem dX12_goDay_63 : decode cX12_goDay 63 = .ok (.aload_n 1, 1) := by decide +kernel
theorem dX12_goDay_64 : decode cX12_goDay 64 = .ok (.iload_n 2, 1) := by decide +kernel
theorem dX12_goDay_65 : decode cX12_goDay 65 = .ok (.iconst 1, 1) := by decide +kernel
theorem dX12_goDay_66 : decode cX12_goDay 66 = .ok (.iadd, 1) := by decide +kernel
theorem dX12_goDay_67 : decode cX12_goDay 67 = .ok (.aload_n 1, 1) := by decide +kernel
theorem dX12_goDay_68 : decode cX12_goDay 68 = .ok (.bipush 24, 2) := by decide +kernel
theorem dX12_goDay_70 : decode cX12_goDay 70 = .ok (.iaload, 1) := by decide +kernel
theorem dX12_goDay_71 : decode cX12_goDay 71 = .ok (.iastore, 1) := by decide +kernel
theorem dX12_goDay_72 : decode cX12_goDay 72 = .ok (.aload_n 1, 1) := by decide +kernel
theorem dX12_goDay_73 : decode cX12_goDay 73 = .ok (.iload_n 2, 1) := by decide +kernel
theorem dX12_goDay_74 : decode cX12_goDay 74 = .ok (.iconst 2, 1) := by decide +kernel
theorem dX12_goDay_75 : decode cX12_goDay 75 = .ok (.iadd, 1) := by decide +kernel
theorem dX12_goDay_76 : decode cX12_goDay 76 = .ok (.aload_n 0, 1) := by decide +kernel
theorem dX12_goDay_77 : decode cX12_goDay 77 = .ok (.aload_n 1, 1) := by decide +kernel
theorem dX12_goDay_78 : decode cX12_goDay 78 = .ok (.invokevirtual 346, 3) := by decide +kernel
theorem dX12_goDay_81 : decode cX12_goDay 81 = .ok (.iastore, 1) := by decide +kernel
theorem dX12_goDay_82 : decode cX12_goDay 82 = .ok (.aload_n 1, 1) := by decide +kernel
theorem dX12_goDay_83 : decode cX12_goDay 83 = .ok (.bipush 28, 2) := by decide +kernel
theorem dX12_goDay_85 : decode cX12_goDay 85 = .ok (.dup2, 1) := by decide +kernel
theorem dX12_goDay_86 : decode cX12_goDay 86 = .ok (.iaload, 1) := by decide +kernel
theorem dX12_goDay_87 : decode cX12_goDay 87 = .ok (.iconst 1, 1) := by decide +kernel
theorem dX12_goDay_88 : decode cX12_goDay 88 = .ok (.iadd, 1) := by decide +kernel
theorem dX12_goDay_89 : decode cX12_goDay 89 = .ok (.iastore, 1) := by decide +kernel
theorem dX12_goDay_90 : decode cX12_goDay 90 = .ok (.iconst 0, 1) := by decide +kernel
theorem dX12_goDay_91 : decode cX12_goDay 91 = .ok (.istore_n 3, 1) := by decide +kernel
theorem dX12_goDay_92 : decode cX12_goDay 92 = .ok (.iload_n 3, 1) := by decide +kernel
theorem dX12_goDay_93 : decode cX12_goDay 93 = .ok (.aload_n 0, 1) := by decide +kernel
theorem dX12_goDay_94 : decode cX12_goDay 94 = .ok (.getfield 293, 3) := by decide +kernel
theorem dX12_goDay_97 : decode cX12_goDay 97 = .ok (.if_icmp .ge 42, 3) := by decide +kernel
theorem dX12_goDay_100 : decode cX12_goDay 100 = .ok (.aload_n 1, 1) := by decide +kernel
theorem dX12_goDay_101 : decode cX12_goDay 101 = .ok (.iconst 3, 1) := by decide +kernel
theorem dX12_goDay_102 : decode cX12_goDay 102 = .ok (.iload_n 3, 1) := by decide +kernel
theorem dX12_goDay_103 : decode cX12_goDay 103 = .ok (.imul, 1) := by decide +kernel
theorem dX12_goDay_104 : decode cX12_goDay 104 = .ok (.iconst 0, 1) := by decide +kernel
theorem dX12_goDay_105 : decode cX12_goDay 105 = .ok (.iadd, 1) := by decide +kernel
theorem dX12_goDay_106 : decode cX12_goDay 106 = .ok (.iconst 0, 1) := by decide +kernel
theorem dX12_goDay_107 : decode cX12_goDay 107 = .ok (.aload_n 1, 1) := by decide +kernel
theorem dX12_goDay_108 : decode cX12_goDay 108 = .ok (.iconst 3, 1) := by decide +kernel
theorem dX12_goDay_109 : decode cX12_goDay 109 = .ok (.iload_n 3, 1) := by decide +kernel
theorem dX12_goDay_110 : decode cX12_goDay 110 = .ok (.imul, 1) := by decide +kernel
theorem dX12_goDay_111 : decode cX12_goDay 111 = .ok (.iconst 0, 1) := by decide +kernel
theorem dX12_goDay_112 : decode cX12_goDay 112 = .ok (.iadd, 1) := by decide +kernel
theorem dX12_goDay_113 : decode cX12_goDay 113 = .ok (.iaload, 1) := by decide +kernel
theorem dX12_goDay_114 : decode cX12_goDay 114 = .ok (.aload_n 0, 1) := by decide +kernel
theorem dX12_goDay_115 : decode cX12_goDay 115 = .ok (.getfield 37, 3) := by decide +kernel
theorem dX12_goDay_118 : decode cX12_goDay 118 = .ok (.iconst 2, 1) := by decide +kernel
theorem dX12_goDay_119 : decode cX12_goDay 119 = .ok (.iaload, 1) := by decide +kernel
theorem dX12_goDay_120 : decode cX12_goDay 120 = .ok (.isub, 1) := by decide +kernel
theorem dX12_goDay_121 : decode cX12_goDay 121 = .ok (.invokestatic 337, 3) := by decide +kernel
theorem dX12_goDay_124 : decode cX12_goDay 124 = .ok (.iastore, 1) := by decide +kernel
theorem dX12_goDay_125 : decode cX12_goDay 125 = .ok (.aload_n 1, 1) := by decide +kernel
theorem dX12_goDay_126 : decode cX12_goDay 126 = .ok (.iconst 3, 1) := by decide +kernel
theorem dX12_goDay_127 : decode cX12_goDay 127 = .ok (.iload_n 3, 1) := by decide +kernel
theorem dX12_goDay_128 : decode cX12_goDay 128 = .ok (.imul, 1) := by decide +kernel
theorem dX12_goDay_129 : decode cX12_goDay 129 = .ok (.iconst 2, 1) := by decide +kernel
theorem dX12_goDay_130 : decode cX12_goDay 130 = .ok (.iadd, 1) := by decide +kernel
theorem dX12_goDay_131 : decode cX12_goDay 131 = .ok (.iconst 0, 1) := by decide +kernel
theorem dX12_goDay_132 : decode cX12_goDay 132 = .ok (.iastore, 1) := by decide +kernel
theorem dX12_goDay_133 : decode cX12_goDay 133 = .ok (.iinc 3 1, 3) := by decide +kernel
theorem dX12_goDay_136 : decode cX12_goDay 136 = .ok (.goto (-44), 3) := by decide +kernel
theorem dX12_goDay_139 : decode cX12_goDay 139 = .ok (.aload_n 1, 1) := by decide +kernel
theorem dX12_goDay_140 : decode cX12_goDay 140 = .ok (.bipush 21, 2) := by decide +kernel
theorem dX12_goDay_142 : decode cX12_goDay 142 = .ok (.iconst 0, 1) := by decide +kernel
theorem dX12_goDay_143 : decode cX12_goDay 143 = .ok (.iastore, 1) := by decide +kernel
theorem dX12_goDay_144 : decode cX12_goDay 144 = .ok (.aload_n 1, 1) := by decide +kernel
theorem dX12_goDay_145 : decode cX12_goDay 145 = .ok (.bipush 22, 2) := by decide +kernel
theorem dX12_goDay_147 : decode cX12_goDay 147 = .ok (.iconst 0, 1) := by decide +kernel
theorem dX12_goDay_148 : decode cX12_goDay 148 = .ok (.iastore, 1) := by decide +kernel
theorem dX12_goDay_149 : decode cX12_goDay 149 = .ok (.aload_n 1, 1) := by decide +kernel
theorem dX12_goDay_150 : decode cX12_goDay 150 = .ok (.bipush 23, 2) := by decide +kernel
theorem dX12_goDay_152 : decode cX12_goDay 152 = .ok (.iconst 0, 1) := by decide +kernel
theorem dX12_goDay_153 : decode cX12_goDay 153 = .ok (.iastore, 1) := by decide +kernel
theorem dX12_goDay_154 : decode cX12_goDay 154 = .ok (.aload_n 1, 1) := by decide +kernel
theorem dX12_goDay_155 : decode cX12_goDay 155 = .ok (.bipush 24, 2) := by decide +kernel
theorem dX12_goDay_157 : decode cX12_goDay 157 = .ok (.iconst 0, 1) := by decide +kernel
theorem dX12_goDay_158 : decode cX12_goDay 158 = .ok (.iastore, 1) := by decide +kernel
theorem dX12_goDay_159 : decode cX12_goDay 159 = .ok (.aload_n 1, 1) := by decide +kernel
theorem dX12_goDay_160 : decode cX12_goDay 160 = .ok (.bipush 27, 2) := by decide +kernel
theorem dX12_goDay_162 : decode cX12_goDay 162 = .ok (.dup2, 1) := by decide +kernel
theorem dX12_goDay_163 : decode cX12_goDay 163 = .ok (.iaload, 1) := by decide +kernel
theorem dX12_goDay_164 : decode cX12_goDay 164 = .ok (.iconst 1, 1) := by decide +kernel
theorem dX12_goDay_165 : decode cX12_goDay 165 = .ok (.iadd, 1) := by decide +kernel
theorem dX12_goDay_166 : decode cX12_goDay 166 = .ok (.iastore, 1) := by decide +kernel
theorem dX12_goDay_167 : decode cX12_goDay 167 = .ok (.return_, 1) := by decide +kernel
theorem dX12_rule_0 : decode cX12_rule 0 = .ok (.aload_n 0, 1) := by decide +kernel
theorem dX12_rule_1 : decode cX12_rule 1 = .ok (.iconst 0, 1) := by decide +kernel
theorem dX12_rule_2 : decode cX12_rule 2 = .ok (.putfield 103, 3) := by decide +kernel
theorem dX12_rule_5 : decode cX12_rule 5 = .ok (.aload_n 0, 1) := by decide +kernel
theorem dX12_rule_6 : decode cX12_rule 6 = .ok (.getfield 293, 3) := by decide +kernel
theorem dX12_rule_9 : decode cX12_rule 9 = .ok (.ifCond .le 24, 3) := by decide +kernel
theorem dX12_rule_12 : decode cX12_rule 12 = .ok (.iload_n 1, 1) := by decide +kernel
theorem dX12_rule_13 : decode cX12_rule 13 = .ok (.i2l, 1) := by decide +kernel
theorem dX12_rule_14 : decode cX12_rule 14 = .ok (.lconst 0, 1) := by decide +kernel
theorem dX12_rule_15 : decode cX12_rule 15 = .ok (.ldc2_w 274, 3) := by decide +kernel
theorem dX12_rule_18 : decode cX12_rule 18 = .ok (.invokestatic 224, 3) := by decide +kernel
theorem dX12_rule_21 : decode cX12_rule 21 = .ok (.ifCond .eq 12, 3) := by decide +kernel
theorem dX12_rule_24 : decode cX12_rule 24 = .ok (.aload_n 0, 1) := by decide +kernel
theorem dX12_rule_25 : decode cX12_rule 25 = .ok (.getfield 37, 3) := by decide +kernel
theorem dX12_rule_28 : decode cX12_rule 28 = .ok (.iload_n 1, 1) := by decide +kernel
theorem dX12_rule_29 : decode cX12_rule 29 = .ok (.iaload, 1) := by decide +kernel
theorem dX12_rule_30 : decode cX12_rule 30 = .ok (.goto 4, 3) := by decide +kernel
theorem dX12_rule_33 : decode cX12_rule 33 = .ok (.iconst (-1), 1) := by decide +kernel
theorem dX12_rule_34 : decode cX12_rule 34 = .ok (.ireturn, 1) := by decide +kernel
theorem dX12_spot_0 : decode cX12_spot 0 = .ok (.aload_n 0, 1) := by decide +kernel
theorem dX12_spot_1 : decode cX12_spot 1 = .ok (.aload_n 0, 1) := by decide +kernel
theorem dX12_spot_2 : decode cX12_spot 2 = .ok (.iload_n 1, 1) := by decide +kernel
theorem dX12_spot_3 : decode cX12_spot 3 = .ok (.invokevirtual 339, 3) := by decide +kernel
theorem dX12_spot_6 : decode cX12_spot 6 = .ok (.ifCond .eq 19, 3) := by decide +kernel
theorem dX12_spot_9 : decode cX12_spot 9 = .ok (.iload_n 2, 1) := by decide +kernel
theorem dX12_spot_10 : decode cX12_spot 10 = .ok (.i2l, 1) := by decide +kernel
theorem dX12_spot_11 : decode cX12_spot 11 = .ok (.lconst 0, 1) := by decide +kernel
theorem dX12_spot_12 : decode cX12_spot 12 = .ok (.ldc2_w 349, 3) := by decide +kernel
theorem dX12_spot_15 : decode cX12_spot 15 = .ok (.invokestatic 224, 3) := by decide +kernel
theorem dX12_spot_18 : decode cX12_spot 18 = .ok (.ifCond .eq 7, 3) := by decide +kernel
theorem dX12_spot_21 : decode cX12_spot 21 = .ok (.iconst 0, 1) := by decide +kernel
theorem dX12_spot_22 : decode cX12_spot 22 = .ok (.goto 4, 3) := by decide +kernel
theorem dX12_spot_25 : decode cX12_spot 25 = .ok (.iconst 1, 1) := by decide +kernel
theorem dX12_spot_26 : decode cX12_spot 26 = .ok (.putfield 103, 3) := by decide +kernel
theorem dX12_spot_29 : decode cX12_spot 29 = .ok (.aload_n 0, 1) := by decide +kernel
theorem dX12_spot_30 : decode cX12_spot 30 = .ok (.getfield 103, 3) := by decide +kernel
theorem dX12_spot_33 : decode cX12_spot 33 = .ok (.ifCond .le 5, 3) := by decide +kernel
theorem dX12_spot_36 : decode cX12_spot 36 = .ok (.iconst 0, 1) := by decide +kernel
theorem dX12_spot_37 : decode cX12_spot 37 = .ok (.ireturn, 1) := by decide +kernel
theorem dX12_spot_38 : decode cX12_spot 38 = .ok (.iload_n 2, 1) := by decide +kernel
theorem dX12_spot_39 : decode cX12_spot 39 = .ok (.tableswitch 58 4 6 #[25, 36, 47], 25) := by decide +kernel
theorem dX12_spot_64 : decode cX12_spot 64 = .ok (.aload_n 0, 1) := by decide +kernel
theorem dX12_spot_65 : decode cX12_spot 65 = .ok (.getfield 55, 3) := by decide +kernel
theorem dX12_spot_68 : decode cX12_spot 68 = .ok (.iconst 3, 1) := by decide +kernel
theorem dX12_spot_69 : decode cX12_spot 69 = .ok (.iload_n 1, 1) := by decide +kernel
theorem dX12_spot_70 : decode cX12_spot 70 = .ok (.imul, 1) := by decide +kernel
theorem dX12_spot_71 : decode cX12_spot 71 = .ok (.iconst 1, 1) := by decide +kernel
theorem dX12_spot_72 : decode cX12_spot 72 = .ok (.iadd, 1) := by decide +kernel
theorem dX12_spot_73 : decode cX12_spot 73 = .ok (.iaload, 1) := by decide +kernel
theorem dX12_spot_74 : decode cX12_spot 74 = .ok (.ireturn, 1) := by decide +kernel
theorem dX12_spot_75 : decode cX12_spot 75 = .ok (.aload_n 0, 1) := by decide +kernel
theorem dX12_spot_76 : decode cX12_spot 76 = .ok (.getfield 55, 3) := by decide +kernel
theorem dX12_spot_79 : decode cX12_spot 79 = .ok (.iconst 3, 1) := by decide +kernel
theorem dX12_spot_80 : decode cX12_spot 80 = .ok (.iload_n 1, 1) := by decide +kernel
theorem dX12_spot_81 : decode cX12_spot 81 = .ok (.imul, 1) := by decide +kernel
theorem dX12_spot_82 : decode cX12_spot 82 = .ok (.iconst 0, 1) := by decide +kernel
theorem dX12_spot_83 : decode cX12_spot 83 = .ok (.iadd, 1) := by decide +kernel
theorem dX12_spot_84 : decode cX12_spot 84 = .ok (.iaload, 1) := by decide +kernel
theorem dX12_spot_85 : decode cX12_spot 85 = .ok (.ireturn, 1) := by decide +kernel
theorem dX12_spot_86 : decode cX12_spot 86 = .ok (.aload_n 0, 1) := by decide +kernel
theorem dX12_spot_87 : decode cX12_spot 87 = .ok (.getfield 55, 3) := by decide +kernel
theorem dX12_spot_90 : decode cX12_spot 90 = .ok (.iconst 3, 1) := by decide +kernel
theorem dX12_spot_91 : decode cX12_spot 91 = .ok (.iload_n 1, 1) := by decide +kernel
theorem dX12_spot_92 : decode cX12_spot 92 = .ok (.imul, 1) := by decide +kernel
theorem dX12_spot_93 : decode cX12_spot 93 = .ok (.iconst 2, 1) := by decide +kernel
theorem dX12_spot_94 : decode cX12_spot 94 = .ok (.iadd, 1) := by decide +kernel
theorem dX12_spot_95 : decode cX12_spot 95 = .ok (.iaload, 1) := by decide +kernel
theorem dX12_spot_96 : decode cX12_spot 96 = .ok (.ireturn, 1) := by decide +kernel
theorem dX12_spot_97 : decode cX12_spot 97 = .ok (.aload_n 0, 1) := by decide +kernel
theorem dX12_spot_98 : decode cX12_spot 98 = .ok (.iload_n 1, 1) := by decide +kernel
theorem dX12_spot_99 : decode cX12_spot 99 = .ok (.iload_n 2, 1) := by decide +kernel
theorem dX12_spot_100 : decode cX12_spot 100 = .ok (.invokevirtual 305, 3) := by decide +kernel
theorem dX12_spot_103 : decode cX12_spot 103 = .ok (.ireturn, 1) := by decide +kernel
theorem dX12_law_0 : decode cX12_law 0 = .ok (.aload_n 0, 1) := by decide +kernel
theorem dX12_law_1 : decode cX12_law 1 = .ok (.iconst 0, 1) := by decide +kernel
theorem dX12_law_2 : decode cX12_law 2 = .ok (.putfield 103, 3) := by decide +kernel
theorem dX12_law_5 : decode cX12_law 5 = .ok (.iload_n 1, 1) := by decide +kernel
theorem dX12_law_6 : decode cX12_law 6 = .ok (.iconst (-1), 1) := by decide +kernel
theorem dX12_law_7 : decode cX12_law 7 = .ok (.if_icmp .eq 21, 3) := by decide +kernel
theorem dX12_law_10 : decode cX12_law 10 = .ok (.iload_n 1, 1) := by decide +kernel
theorem dX12_law_11 : decode cX12_law 11 = .ok (.i2l, 1) := by decide +kernel
theorem dX12_law_12 : decode cX12_law 12 = .ok (.lconst 0, 1) := by decide +kernel
theorem dX12_law_13 : decode cX12_law 13 = .ok (.aload_n 0, 1) := by decide +kernel
theorem dX12_law_14 : decode cX12_law 14 = .ok (.getfield 285, 3) := by decide +kernel
theorem dX12_law_17 : decode cX12_law 17 = .ok (.iconst 1, 1) := by decide +kernel
theorem dX12_law_18 : decode cX12_law 18 = .ok (.isub, 1) := by decide +kernel
theorem dX12_law_19 : decode cX12_law 19 = .ok (.i2l, 1) := by decide +kernel
theorem dX12_law_20 : decode cX12_law 20 = .ok (.invokestatic 224, 3) := by decide +kernel
theorem dX12_law_23 : decode cX12_law 23 = .ok (.ifCond .ne 5, 3) := by decide +kernel
theorem dX12_law_26 : decode cX12_law 26 = .ok (.iconst 0, 1) := by decide +kernel
theorem dX12_law_27 : decode cX12_law 27 = .ok (.ireturn, 1) := by decide +kernel
theorem dX12_law_28 : decode cX12_law 28 = .ok (.aload_n 0, 1) := by decide +kernel
theorem dX12_law_29 : decode cX12_law 29 = .ok (.iload_n 1, 1) := by decide +kernel
theorem dX12_law_30 : decode cX12_law 30 = .ok (.putfield 61, 3) := by decide +kernel
theorem dX12_law_33 : decode cX12_law 33 = .ok (.iconst 1, 1) := by decide +kernel
theorem dX12_law_34 : decode cX12_law 34 = .ok (.ireturn, 1) := by decide +kernel
theorem dX12_gout_0 : decode cX12_gout 0 = .ok (.aload_n 0, 1) := by decide +kernel
theorem dX12_gout_1 : decode cX12_gout 1 = .ok (.iconst 0, 1) := by decide +kernel
theorem dX12_gout_2 : decode cX12_gout 2 = .ok (.putfield 103, 3) := by decide +kernel
theorem dX12_gout_5 : decode cX12_gout 5 = .ok (.iload_n 1, 1) := by decide +kernel
theorem dX12_gout_6 : decode cX12_gout 6 = .ok (.i2l, 1) := by decide +kernel
theorem dX12_gout_7 : decode cX12_gout 7 = .ok (.lconst 0, 1) := by decide +kernel
theorem dX12_gout_8 : decode cX12_gout 8 = .ok (.ldc2_w 351, 3) := by decide +kernel
theorem dX12_gout_11 : decode cX12_gout 11 = .ok (.invokestatic 224, 3) := by decide +kernel
theorem dX12_gout_14 : decode cX12_gout 14 = .ok (.ifCond .eq 11, 3) := by decide +kernel
theorem dX12_gout_17 : decode cX12_gout 17 = .ok (.iload_n 1, 1) := by decide +kernel
theorem dX12_gout_18 : decode cX12_gout 18 = .ok (.aload_n 0, 1) := by decide +kernel
theorem dX12_gout_19 : decode cX12_gout 19 = .ok (.getfield 65, 3) := by decide +kernel
theorem dX12_gout_22 : decode cX12_gout 22 = .ok (.if_icmp .ne 5, 3) := by decide +kernel
theorem dX12_gout_25 : decode cX12_gout 25 = .ok (.iconst 0, 1) := by decide +kernel
theorem dX12_gout_26 : decode cX12_gout 26 = .ok (.ireturn, 1) := by decide +kernel
theorem dX12_gout_27 : decode cX12_gout 27 = .ok (.aload_n 0, 1) := by decide +kernel
theorem dX12_gout_28 : decode cX12_gout 28 = .ok (.iload_n 1, 1) := by decide +kernel
theorem dX12_gout_29 : decode cX12_gout 29 = .ok (.putfield 65, 3) := by decide +kernel
theorem dX12_gout_32 : decode cX12_gout 32 = .ok (.iconst 1, 1) := by decide +kernel
theorem dX12_gout_33 : decode cX12_gout 33 = .ok (.ireturn, 1) := by decide +kernel
theorem dX12_steps_0 : decode cX12_steps 0 = .ok (.aload_n 0, 1) := by decide +kernel
theorem dX12_steps_1 : decode cX12_steps 1 = .ok (.iconst 0, 1) := by decide +kernel
theorem dX12_steps_2 : decode cX12_steps 2 = .ok (.putfield 103, 3) := by decide +kernel
theorem dX12_steps_5 : decode cX12_steps 5 = .ok (.aload_n 0, 1) := by decide +kernel
theorem dX12_steps_6 : decode cX12_steps 6 = .ok (.iload_n 2, 1) := by decide +kernel
theorem dX12_steps_7 : decode cX12_steps 7 = .ok (.invokevirtual 339, 3) := by decide +kernel
theorem dX12_steps_10 : decode cX12_steps 10 = .ok (.ifCond .eq 16, 3) := by decide +kernel
theorem dX12_steps_13 : decode cX12_steps 13 = .ok (.iload_n 1, 1) := by decide +kernel
theorem dX12_steps_14 : decode cX12_steps 14 = .ok (.iconst (-1), 1) := by decide +kernel
theorem dX12_steps_15 : decode cX12_steps 15 = .ok (.if_icmp .eq 13, 3) := by decide +kernel
theorem dX12_steps_18 : decode cX12_steps 18 = .ok (.aload_n 0, 1) := by decide +kernel
theorem dX12_steps_19 : decode cX12_steps 19 = .ok (.iload_n 1, 1) := by decide +kernel
theorem dX12_steps_20 : decode cX12_steps 20 = .ok (.invokevirtual 339, 3) := by decide +kernel
theorem dX12_steps_23 : decode cX12_steps 23 = .ok (.ifCond .ne 5, 3) := by decide +kernel
theorem dX12_steps_26 : decode cX12_steps 26 = .ok (.iconst (-1), 1) := by decide +kernel
theorem dX12_steps_27 : decode cX12_steps 27 = .ok (.ireturn, 1) := by decide +kernel
theorem dX12_steps_28 : decode cX12_steps 28 = .ok (.iload_n 1, 1) := by decide +kernel
theorem dX12_steps_29 : decode cX12_steps 29 = .ok (.iconst (-1), 1) := by decide +kernel
theorem dX12_steps_30 : decode cX12_steps 30 = .ok (.if_icmp .ne 15, 3) := by decide +kernel
theorem dX12_steps_33 : decode cX12_steps 33 = .ok (.aload_n 0, 1) := by decide +kernel
theorem dX12_steps_34 : decode cX12_steps 34 = .ok (.aload_n 0, 1) := by decide +kernel
theorem dX12_steps_35 : decode cX12_steps 35 = .ok (.getfield 55, 3) := by decide +kernel
theorem dX12_steps_38 : decode cX12_steps 38 = .ok (.iload_n 2, 1) := by decide +kernel
theorem dX12_steps_39 : decode cX12_steps 39 = .ok (.invokevirtual 328, 3) := by decide +kernel
theorem dX12_steps_42 : decode cX12_steps 42 = .ok (.goto 9, 3) := by decide +kernel
theorem dX12_steps_45 : decode cX12_steps 45 = .ok (.aload_n 0, 1) := by decide +kernel
theorem dX12_steps_46 : decode cX12_steps 46 = .ok (.iload_n 1, 1) := by decide +kernel
theorem dX12_steps_47 : decode cX12_steps 47 = .ok (.iload_n 2, 1) := by decide +kernel
theorem dX12_steps_48 : decode cX12_steps 48 = .ok (.invokevirtual 315, 3) := by decide +kernel
theorem dX12_steps_51 : decode cX12_steps 51 = .ok (.ireturn, 1) := by decide +kernel
theorem dX12_remember_0 : decode cX12_remember 0 = .ok (.aload_n 0, 1) := by decide +kernel
theorem dX12_remember_1 : decode cX12_remember 1 = .ok (.getfield 299, 3) := by decide +kernel
theorem dX12_remember_4 : decode cX12_remember 4 = .ok (.bipush 40, 2) := by decide +kernel
theorem dX12_remember_6 : decode cX12_remember 6 = .ok (.if_icmp .ne 44, 3) := by decide +kernel
theorem dX12_remember_9 : decode cX12_remember 9 = .ok (.iconst 0, 1) := by decide +kernel
theorem dX12_remember_10 : decode cX12_remember 10 = .ok (.istore_n 1, 1) := by decide +kernel
theorem dX12_remember_11 : decode cX12_remember 11 = .ok (.iload_n 1, 1) := by decide +kernel
theorem dX12_remember_12 : decode cX12_remember 12 = .ok (.sipush 8151, 3) := by decide +kernel
theorem dX12_remember_15 : decode cX12_remember 15 = .ok (.if_icmp .ge 25, 3) := by decide +kernel
theorem dX12_remember_18 : decode cX12_remember 18 = .ok (.aload_n 0, 1) := by decide +kernel
theorem dX12_remember_19 : decode cX12_remember 19 = .ok (.getfield 75, 3) := by decide +kernel
theorem dX12_remember_22 : decode cX12_remember 22 = .ok (.iload_n 1, 1) := by decide +kernel
theorem dX12_remember_23 : decode cX12_remember 23 = .ok (.aload_n 0, 1) := by decide +kernel
theorem dX12_remember_24 : decode cX12_remember 24 = .ok (.getfield 75, 3) := by decide +kernel
theorem dX12_remember_27 : decode cX12_remember 27 = .ok (.iload_n 1, 1) := by decide +kernel
theorem dX12_remember_28 : decode cX12_remember 28 = .ok (.sipush 209, 3) := by decide +kernel
theorem dX12_remember_31 : decode cX12_remember 31 = .ok (.iadd, 1) := by decide +kernel
theorem dX12_remember_32 : decode cX12_remember 32 = .ok (.iaload, 1) := by decide +kernel
theorem dX12_remember_33 : decode cX12_remember 33 = .ok (.iastore, 1) := by decide +kernel
theorem dX12_remember_34 : decode cX12_remember 34 = .ok (.iinc 1 1, 3) := by decide +kernel
theorem dX12_remember_37 : decode cX12_remember 37 = .ok (.goto (-26), 3) := by decide +kernel
theorem dX12_remember_40 : decode cX12_remember 40 = .ok (.aload_n 0, 1) := by decide +kernel
theorem dX12_remember_41 : decode cX12_remember 41 = .ok (.dup, 1) := by decide +kernel
theorem dX12_remember_42 : decode cX12_remember 42 = .ok (.getfield 299, 3) := by decide +kernel
theorem dX12_remember_45 : decode cX12_remember 45 = .ok (.iconst 1, 1) := by decide +kernel
theorem dX12_remember_46 : decode cX12_remember 46 = .ok (.isub, 1) := by decide +kernel
theorem dX12_remember_47 : decode cX12_remember 47 = .ok (.putfield 299, 3) := by decide +kernel
theorem dX12_remember_50 : decode cX12_remember 50 = .ok (.iconst 0, 1) := by decide +kernel
theorem dX12_remember_51 : decode cX12_remember 51 = .ok (.istore_n 1, 1) := by decide +kernel
theorem dX12_remember_52 : decode cX12_remember 52 = .ok (.iload_n 1, 1) := by decide +kernel
theorem dX12_remember_53 : decode cX12_remember 53 = .ok (.sipush 209, 3) := by decide +kernel
theorem dX12_remember_56 : decode cX12_remember 56 = .ok (.if_icmp .ge 30, 3) := by decide +kernel
theorem dX12_remember_59 : decode cX12_remember 59 = .ok (.aload_n 0, 1) := by decide +kernel
theorem dX12_remember_60 : decode cX12_remember 60 = .ok (.getfield 75, 3) := by decide +kernel
theorem dX12_remember_63 : decode cX12_remember 63 = .ok (.sipush 209, 3) := by decide +kernel
theorem dX12_remember_66 : decode cX12_remember 66 = .ok (.aload_n 0, 1) := by decide +kernel
theorem dX12_remember_67 : decode cX12_remember 67 = .ok (.getfield 299, 3) := by decide +kernel
theorem dX12_remember_70 : decode cX12_remember 70 = .ok (.imul, 1) := by decide +kernel
theorem dX12_remember_71 : decode cX12_remember 71 = .ok (.iload_n 1, 1) := by decide +kernel
theorem dX12_remember_72 : decode cX12_remember 72 = .ok (.iadd, 1) := by decide +kernel
theorem dX12_remember_73 : decode cX12_remember 73 = .ok (.aload_n 0, 1) := by decide +kernel
theorem dX12_remember_74 : decode cX12_remember 74 = .ok (.getfield 55, 3) := by decide +kernel
theorem dX12_remember_77 : decode cX12_remember 77 = .ok (.iload_n 1, 1) := by decide +kernel
theorem dX12_remember_78 : decode cX12_remember 78 = .ok (.iaload, 1) := by decide +kernel
theorem dX12_remember_79 : decode cX12_remember 79 = .ok (.iastore, 1) := by decide +kernel
theorem dX12_remember_80 : decode cX12_remember 80 = .ok (.iinc 1 1, 3) := by decide +kernel
theorem dX12_remember_83 : decode cX12_remember 83 = .ok (.goto (-31), 3) := by decide +kernel
theorem dX12_remember_86 : decode cX12_remember 86 = .ok (.aload_n 0, 1) := by decide +kernel
theorem dX12_remember_87 : decode cX12_remember 87 = .ok (.dup, 1) := by decide +kernel
theorem dX12_remember_88 : decode cX12_remember 88 = .ok (.getfield 299, 3) := by decide +kernel
theorem dX12_remember_91 : decode cX12_remember 91 = .ok (.iconst 1, 1) := by decide +kernel
theorem dX12_remember_92 : decode cX12_remember 92 = .ok (.iadd, 1) := by decide +kernel
theorem dX12_remember_93 : decode cX12_remember 93 = .ok (.putfield 299, 3) := by decide +kernel
theorem dX12_remember_96 : decode cX12_remember 96 = .ok (.return_, 1) := by decide +kernel
theorem dX12_walk_0 : decode cX12_walk 0 = .ok (.aload_n 0, 1) := by decide +kernel
theorem dX12_walk_1 : decode cX12_walk 1 = .ok (.iconst 0, 1) := by decide +kernel
theorem dX12_walk_2 : decode cX12_walk 2 = .ok (.putfield 103, 3) := by decide +kernel
theorem dX12_walk_5 : decode cX12_walk 5 = .ok (.aload_n 0, 1) := by decide +kernel
theorem dX12_walk_6 : decode cX12_walk 6 = .ok (.aload_n 0, 1) := by decide +kernel
theorem dX12_walk_7 : decode cX12_walk 7 = .ok (.getfield 55, 3) := by decide +kernel
theorem dX12_walk_10 : decode cX12_walk 10 = .ok (.iload_n 1, 1) := by decide +kernel
theorem dX12_walk_11 : decode cX12_walk 11 = .ok (.invokevirtual 353, 3) := by decide +kernel
theorem dX12_walk_14 : decode cX12_walk 14 = .ok (.ifCond .ne 5, 3) := by decide +kernel
theorem dX12_walk_17 : decode cX12_walk 17 = .ok (.iconst (-1), 1) := by decide +kernel
theorem dX12_walk_18 : decode cX12_walk 18 = .ok (.ireturn, 1) := by decide +kernel
theorem dX12_walk_19 : decode cX12_walk 19 = .ok (.aload_n 0, 1) := by decide +kernel
theorem dX12_walk_20 : decode cX12_walk 20 = .ok (.invokevirtual 357, 3) := by decide +kernel
theorem dX12_walk_23 : decode cX12_walk 23 = .ok (.aload_n 0, 1) := by decide +kernel
theorem dX12_walk_24 : decode cX12_walk 24 = .ok (.aload_n 0, 1) := by decide +kernel
theorem dX12_walk_25 : decode cX12_walk 25 = .ok (.getfield 55, 3) := by decide +kernel
theorem dX12_walk_28 : decode cX12_walk 28 = .ok (.iload_n 1, 1) := by decide +kernel
theorem dX12_walk_29 : decode cX12_walk 29 = .ok (.aload_n 0, 1) := by decide +kernel
theorem dX12_walk_30 : decode cX12_walk 30 = .ok (.getfield 37, 3) := by decide +kernel
theorem dX12_walk_33 : decode cX12_walk 33 = .ok (.iconst 2, 1) := by decide +kernel
theorem dX12_walk_34 : decode cX12_walk 34 = .ok (.iaload, 1) := by decide +kernel
theorem dX12_walk_35 : decode cX12_walk 35 = .ok (.invokevirtual 360, 3) := by decide +kernel
theorem dX12_walk_38 : decode cX12_walk 38 = .ok (.ireturn, 1) := by decide +kernel
theorem dX12_ledge_0 : decode cX12_ledge 0 = .ok (.aload_n 0, 1) := by decide +kernel
theorem dX12_ledge_1 : decode cX12_ledge 1 = .ok (.iconst 0, 1) := by decide +kernel
theorem dX12_ledge_2 : decode cX12_ledge 2 = .ok (.putfield 103, 3) := by decide +kernel
theorem dX12_ledge_5 : decode cX12_ledge 5 = .ok (.aload_n 0, 1) := by decide +kernel
theorem dX12_ledge_6 : decode cX12_ledge 6 = .ok (.getfield 293, 3) := by decide +kernel
theorem dX12_ledge_9 : decode cX12_ledge 9 = .ok (.ifCond .eq 14, 3) := by decide +kernel
theorem dX12_ledge_12 : decode cX12_ledge 12 = .ok (.aload_n 0, 1) := by decide +kernel
theorem dX12_ledge_13 : decode cX12_ledge 13 = .ok (.aload_n 0, 1) := by decide +kernel
theorem dX12_ledge_14 : decode cX12_ledge 14 = .ok (.getfield 55, 3) := by decide +kernel
theorem dX12_ledge_17 : decode cX12_ledge 17 = .ok (.invokevirtual 364, 3) := by decide +kernel
theorem dX12_ledge_20 : decode cX12_ledge 20 = .ok (.ifCond .ne 5, 3) := by decide +kernel
theorem dX12_ledge_23 : decode cX12_ledge 23 = .ok (.iconst (-1), 1) := by decide +kernel
theorem dX12_ledge_24 : decode cX12_ledge 24 = .ok (.ireturn, 1) := by decide +kernel
theorem dX12_ledge_25 : decode cX12_ledge 25 = .ok (.aload_n 0, 1) := by decide +kernel
theorem dX12_ledge_26 : decode cX12_ledge 26 = .ok (.invokevirtual 357, 3) := by decide +kernel
theorem dX12_ledge_29 : decode cX12_ledge 29 = .ok (.aload_n 0, 1) := by decide +kernel
theorem dX12_ledge_30 : decode cX12_ledge 30 = .ok (.getfield 55, 3) := by decide +kernel
theorem dX12_ledge_33 : decode cX12_ledge 33 = .ok (.invokestatic 368, 3) := by decide +kernel
theorem dX12_ledge_36 : decode cX12_ledge 36 = .ok (.aload_n 0, 1) := by decide +kernel
theorem dX12_ledge_37 : decode cX12_ledge 37 = .ok (.getfield 55, 3) := by decide +kernel
theorem dX12_ledge_40 : decode cX12_ledge 40 = .ok (.bipush 22, 2) := by decide +kernel
theorem dX12_ledge_42 : decode cX12_ledge 42 = .ok (.iaload, 1) := by decide +kernel
theorem dX12_ledge_43 : decode cX12_ledge 43 = .ok (.ireturn, 1) := by decide +kernel
theorem dX12_canRestore_0 : decode cX12_canRestore 0 = .ok (.aload_n 0, 1) := by decide +kernel
theorem dX12_canRestore_1 : decode cX12_canRestore 1 = .ok (.iload_n 2, 1) := by decide +kernel
theorem dX12_canRestore_2 : decode cX12_canRestore 2 = .ok (.invokevirtual 339, 3) := by decide +kernel
theorem dX12_canRestore_5 : decode cX12_canRestore 5 = .ok (.ifCond .eq 18, 3) := by decide +kernel
theorem dX12_canRestore_8 : decode cX12_canRestore 8 = .ok (.aload_n 1, 1) := by decide +kernel
theorem dX12_canRestore_9 : decode cX12_canRestore 9 = .ok (.bipush 26, 2) := by decide +kernel
theorem dX12_canRestore_11 : decode cX12_canRestore 11 = .ok (.iaload, 1) := by decide +kernel
theorem dX12_canRestore_12 : decode cX12_canRestore 12 = .ok (.iload_n 2, 1) := by decide +kernel
theorem dX12_canRestore_13 : decode cX12_canRestore 13 = .ok (.invokestatic 236, 3) := by decide +kernel
theorem dX12_canRestore_16 : decode cX12_canRestore 16 = .ok (.ifCond .eq 7, 3) := by decide +kernel
theorem dX12_canRestore_19 : decode cX12_canRestore 19 = .ok (.iconst 1, 1) := by decide +kernel
theorem dX12_canRestore_20 : decode cX12_canRestore 20 = .ok (.goto 4, 3) := by decide +kernel
theorem dX12_canRestore_23 : decode cX12_canRestore 23 = .ok (.iconst 0, 1) := by decide +kernel
theorem dX12_canRestore_24 : decode cX12_canRestore 24 = .ok (.ireturn, 1) := by decide +kernel
theorem dX12_restores_0 : decode cX12_restores 0 = .ok (.aload_n 0, 1) := by decide +kernel
theorem dX12_restores_1 : decode cX12_restores 1 = .ok (.iconst 3, 1) := by decide +kernel
theorem dX12_restores_2 : decode cX12_restores 2 = .ok (.iload_n 1, 1) := by decide +kernel
theorem dX12_restores_3 : decode cX12_restores 3 = .ok (.imul, 1) := by decide +kernel
theorem dX12_restores_4 : decode cX12_restores 4 = .ok (.iconst 0, 1) := by decide +kernel
theorem dX12_restores_5 : decode cX12_restores 5 = .ok (.iadd, 1) := by decide +kernel
theorem dX12_restores_6 : decode cX12_restores 6 = .ok (.dup2, 1) := by decide +kernel
theorem dX12_restores_7 : decode cX12_restores 7 = .ok (.iaload, 1) := by decide +kernel
theorem dX12_restores_8 : decode cX12_restores 8 = .ok (.iconst 2, 1) := by decide +kernel
theorem dX12_restores_9 : decode cX12_restores 9 = .ok (.idiv, 1) := by decide +kernel
theorem dX12_restores_10 : decode cX12_restores 10 = .ok (.iastore, 1) := by decide +kernel
theorem dX12_restores_11 : decode cX12_restores 11 = .ok (.aload_n 0, 1) := by decide +kernel
theorem dX12_restores_12 : decode cX12_restores 12 = .ok (.bipush 26, 2) := by decide +kernel
theorem dX12_restores_14 : decode cX12_restores 14 = .ok (.dup2, 1) := by decide +kernel
theorem dX12_restores_15 : decode cX12_restores 15 = .ok (.iaload, 1) := by decide +kernel
theorem dX12_restores_16 : decode cX12_restores 16 = .ok (.iconst 1, 1) := by decide +kernel
theorem dX12_restores_17 : decode cX12_restores 17 = .ok (.iload_n 1, 1) := by decide +kernel
theorem dX12_restores_18 : decode cX12_restores 18 = .ok (.ishl, 1) := by decide +kernel
theorem dX12_restores_19 : decode cX12_restores 19 = .ok (.iconst (-1), 1) := by decide +kernel
theorem dX12_restores_20 : decode cX12_restores 20 = .ok (.ixor, 1) := by decide +kernel
theorem dX12_restores_21 : decode cX12_restores 21 = .ok (.iand, 1) := by decide +kernel
theorem dX12_restores_22 : decode cX12_restores 22 = .ok (.iastore, 1) := by decide +kernel
theorem dX12_restores_23 : decode cX12_restores 23 = .ok (.return_, 1) := by decide +kernel
theorem dX12_restore_0 : decode cX12_restore 0 = .ok (.aload_n 0, 1) := by decide +kernel
theorem dX12_restore_1 : decode cX12_restore 1 = .ok (.iconst 0, 1) := by decide +kernel
theorem dX12_restore_2 : decode cX12_restore 2 = .ok (.putfield 103, 3) := by decide +kernel
theorem dX12_restore_5 : decode cX12_restore 5 = .ok (.aload_n 0, 1) := by decide +kernel
theorem dX12_restore_6 : decode cX12_restore 6 = .ok (.aload_n 0, 1) := by decide +kernel
theorem dX12_restore_7 : decode cX12_restore 7 = .ok (.getfield 55, 3) := by decide +kernel
theorem dX12_restore_10 : decode cX12_restore 10 = .ok (.iload_n 1, 1) := by decide +kernel
theorem dX12_restore_11 : decode cX12_restore 11 = .ok (.invokevirtual 372, 3) := by decide +kernel
theorem dX12_restore_14 : decode cX12_restore 14 = .ok (.ifCond .ne 5, 3) := by decide +kernel
theorem dX12_restore_17 : decode cX12_restore 17 = .ok (.iconst (-1), 1) := by decide +kernel
theorem dX12_restore_18 : decode cX12_restore 18 = .ok (.ireturn, 1) := by decide +kernel
theorem dX12_restore_19 : decode cX12_restore 19 = .ok (.aload_n 0, 1) := by decide +kernel
theorem dX12_restore_20 : decode cX12_restore 20 = .ok (.invokevirtual 357, 3) := by decide +kernel
theorem dX12_restore_23 : decode cX12_restore 23 = .ok (.aload_n 0, 1) := by decide +kernel
theorem dX12_restore_24 : decode cX12_restore 24 = .ok (.getfield 55, 3) := by decide +kernel
theorem dX12_restore_27 : decode cX12_restore 27 = .ok (.iload_n 1, 1) := by decide +kernel
theorem dX12_restore_28 : decode cX12_restore 28 = .ok (.invokestatic 375, 3) := by decide +kernel
theorem dX12_restore_31 : decode cX12_restore 31 = .ok (.aload_n 0, 1) := by decide +kernel
theorem dX12_restore_32 : decode cX12_restore 32 = .ok (.getfield 55, 3) := by decide +kernel
theorem dX12_restore_35 : decode cX12_restore 35 = .ok (.iconst 3, 1) := by decide +kernel
theorem dX12_restore_36 : decode cX12_restore 36 = .ok (.iload_n 1, 1) := by decide +kernel
theorem dX12_restore_37 : decode cX12_restore 37 = .ok (.imul, 1) := by decide +kernel
theorem dX12_restore_38 : decode cX12_restore 38 = .ok (.iconst 0, 1) := by decide +kernel
theorem dX12_restore_39 : decode cX12_restore 39 = .ok (.iadd, 1) := by decide +kernel
theorem dX12_restore_40 : decode cX12_restore 40 = .ok (.iaload, 1) := by decide +kernel
theorem dX12_restore_41 : decode cX12_restore 41 = .ok (.ireturn, 1) := by decide +kernel
theorem dX12_patience_0 : decode cX12_patience 0 = .ok (.aload_n 0, 1) := by decide +kernel
theorem dX12_patience_1 : decode cX12_patience 1 = .ok (.iconst 0, 1) := by decide +kernel
theorem dX12_patience_2 : decode cX12_patience 2 = .ok (.putfield 103, 3) := by decide +kernel
theorem dX12_patience_5 : decode cX12_patience 5 = .ok (.aload_n 0, 1) := by decide +kernel
theorem dX12_patience_6 : decode cX12_patience 6 = .ok (.iload_n 1, 1) := by decide +kernel
theorem dX12_patience_7 : decode cX12_patience 7 = .ok (.invokevirtual 339, 3) := by decide +kernel
theorem dX12_patience_10 : decode cX12_patience 10 = .ok (.ifCond .eq 29, 3) := by decide +kernel
theorem dX12_patience_13 : decode cX12_patience 13 = .ok (.iload_n 2, 1) := by decide +kernel
theorem dX12_patience_14 : decode cX12_patience 14 = .ok (.i2l, 1) := by decide +kernel
theorem dX12_patience_15 : decode cX12_patience 15 = .ok (.lconst 0, 1) := by decide +kernel
theorem dX12_patience_16 : decode cX12_patience 16 = .ok (.ldc2_w 379, 3) := by decide +kernel
theorem dX12_patience_19 : decode cX12_patience 19 = .ok (.invokestatic 224, 3) := by decide +kernel
theorem dX12_patience_22 : decode cX12_patience 22 = .ok (.ifCond .eq 17, 3) := by decide +kernel
theorem dX12_patience_25 : decode cX12_patience 25 = .ok (.aload_n 0, 1) := by decide +kernel
theorem dX12_patience_26 : decode cX12_patience 26 = .ok (.getfield 55, 3) := by decide +kernel
theorem dX12_patience_29 : decode cX12_patience 29 = .ok (.iconst 3, 1) := by decide +kernel
theorem dX12_patience_30 : decode cX12_patience 30 = .ok (.iload_n 1, 1) := by decide +kernel
theorem dX12_patience_31 : decode cX12_patience 31 = .ok (.imul, 1) := by decide +kernel
theorem dX12_patience_32 : decode cX12_patience 32 = .ok (.iconst 1, 1) := by decide +kernel
theorem dX12_patience_33 : decode cX12_patience 33 = .ok (.iadd, 1) := by decide +kernel
theorem dX12_patience_34 : decode cX12_patience 34 = .ok (.iaload, 1) := by decide +kernel
theorem dX12_patience_35 : decode cX12_patience 35 = .ok (.iload_n 2, 1) := by decide +kernel
theorem dX12_patience_36 : decode cX12_patience 36 = .ok (.if_icmp .ne 5, 3) := by decide +kernel
theorem dX12_patience_39 : decode cX12_patience 39 = .ok (.iconst (-1), 1) := by decide +kernel
theorem dX12_patience_40 : decode cX12_patience 40 = .ok (.ireturn, 1) := by decide +kernel
theorem dX12_patience_41 : decode cX12_patience 41 = .ok (.aload_n 0, 1) := by decide +kernel
theorem dX12_patience_42 : decode cX12_patience 42 = .ok (.invokevirtual 357, 3) := by decide +kernel
theorem dX12_patience_45 : decode cX12_patience 45 = .ok (.aload_n 0, 1) := by decide +kernel
theorem dX12_patience_46 : decode cX12_patience 46 = .ok (.getfield 55, 3) := by decide +kernel
theorem dX12_patience_49 : decode cX12_patience 49 = .ok (.iconst 3, 1) := by decide +kernel
theorem dX12_patience_50 : decode cX12_patience 50 = .ok (.iload_n 1, 1) := by decide +kernel
theorem dX12_patience_51 : decode cX12_patience 51 = .ok (.imul, 1) := by decide +kernel
theorem dX12_patience_52 : decode cX12_patience 52 = .ok (.iconst 1, 1) := by decide +kernel
theorem dX12_patience_53 : decode cX12_patience 53 = .ok (.iadd, 1) := by decide +kernel
theorem dX12_patience_54 : decode cX12_patience 54 = .ok (.iaload, 1) := by decide +kernel
theorem dX12_patience_55 : decode cX12_patience 55 = .ok (.istore_n 3, 1) := by decide +kernel
theorem dX12_patience_56 : decode cX12_patience 56 = .ok (.aload_n 0, 1) := by decide +kernel
theorem dX12_patience_57 : decode cX12_patience 57 = .ok (.getfield 55, 3) := by decide +kernel
theorem dX12_patience_60 : decode cX12_patience 60 = .ok (.iconst 3, 1) := by decide +kernel
theorem dX12_patience_61 : decode cX12_patience 61 = .ok (.iload_n 1, 1) := by decide +kernel
theorem dX12_patience_62 : decode cX12_patience 62 = .ok (.imul, 1) := by decide +kernel
theorem dX12_patience_63 : decode cX12_patience 63 = .ok (.iconst 1, 1) := by decide +kernel
theorem dX12_patience_64 : decode cX12_patience 64 = .ok (.iadd, 1) := by decide +kernel
theorem dX12_patience_65 : decode cX12_patience 65 = .ok (.iload_n 2, 1) := by decide +kernel
theorem dX12_patience_66 : decode cX12_patience 66 = .ok (.iastore, 1) := by decide +kernel
theorem dX12_patience_67 : decode cX12_patience 67 = .ok (.iload_n 3, 1) := by decide +kernel
theorem dX12_patience_68 : decode cX12_patience 68 = .ok (.ireturn, 1) := by decide +kernel
theorem dX12_day_0 : decode cX12_day 0 = .ok (.aload_n 0, 1) := by decide +kernel
theorem dX12_day_1 : decode cX12_day 1 = .ok (.iconst 0, 1) := by decide +kernel
theorem dX12_day_2 : decode cX12_day 2 = .ok (.putfield 103, 3) := by decide +kernel
theorem dX12_day_5 : decode cX12_day 5 = .ok (.aload_n 0, 1) := by decide +kernel
theorem dX12_day_6 : decode cX12_day 6 = .ok (.getfield 293, 3) := by decide +kernel
theorem dX12_day_9 : decode cX12_day 9 = .ok (.ifCond .eq 16, 3) := by decide +kernel
theorem dX12_day_12 : decode cX12_day 12 = .ok (.aload_n 0, 1) := by decide +kernel
theorem dX12_day_13 : decode cX12_day 13 = .ok (.getfield 55, 3) := by decide +kernel
theorem dX12_day_16 : decode cX12_day 16 = .ok (.bipush 27, 2) := by decide +kernel
theorem dX12_day_18 : decode cX12_day 18 = .ok (.iaload, 1) := by decide +kernel
theorem dX12_day_19 : decode cX12_day 19 = .ok (.sipush 999, 3) := by decide +kernel
theorem dX12_day_22 : decode cX12_day 22 = .ok (.if_icmp .ne 5, 3) := by decide +kernel
theorem dX12_day_25 : decode cX12_day 25 = .ok (.iconst (-1), 1) := by decide +kernel
theorem dX12_day_26 : decode cX12_day 26 = .ok (.ireturn, 1) := by decide +kernel
theorem dX12_day_27 : decode cX12_day 27 = .ok (.aload_n 0, 1) := by decide +kernel
theorem dX12_day_28 : decode cX12_day 28 = .ok (.invokevirtual 357, 3) := by decide +kernel
theorem dX12_day_31 : decode cX12_day 31 = .ok (.aload_n 0, 1) := by decide +kernel
theorem dX12_day_32 : decode cX12_day 32 = .ok (.aload_n 0, 1) := by decide +kernel
theorem dX12_day_33 : decode cX12_day 33 = .ok (.getfield 55, 3) := by decide +kernel
theorem dX12_day_36 : decode cX12_day 36 = .ok (.invokevirtual 381, 3) := by decide +kernel
theorem dX12_day_39 : decode cX12_day 39 = .ok (.aload_n 0, 1) := by decide +kernel
theorem dX12_day_40 : decode cX12_day 40 = .ok (.getfield 55, 3) := by decide +kernel
theorem dX12_day_43 : decode cX12_day 43 = .ok (.bipush 27, 2) := by decide +kernel
theorem dX12_day_45 : decode cX12_day 45 = .ok (.iaload, 1) := by decide +kernel
theorem dX12_day_46 : decode cX12_day 46 = .ok (.ireturn, 1) := by decide +kernel
theorem dX12_draw_0 : decode cX12_draw 0 = .ok (.aload_n 0, 1) := by decide +kernel
theorem dX12_draw_1 : decode cX12_draw 1 = .ok (.aload_n 0, 1) := by decide +kernel
theorem dX12_draw_2 : decode cX12_draw 2 = .ok (.getfield 384, 3) := by decide +kernel
theorem dX12_draw_5 : decode cX12_draw 5 = .ok (.ldc2_w 388, 3) := by decide +kernel
theorem dX12_draw_8 : decode cX12_draw 8 = .ok (.lmul, 1) := by decide +kernel
theorem dX12_draw_9 : decode cX12_draw 9 = .ok (.ldc2_w 390, 3) := by decide +kernel
theorem dX12_draw_12 : decode cX12_draw 12 = .ok (.ladd, 1) := by decide +kernel
theorem dX12_draw_13 : decode cX12_draw 13 = .ok (.putfield 384, 3) := by decide +kernel
theorem dX12_draw_16 : decode cX12_draw 16 = .ok (.aload_n 0, 1) := by decide +kernel
theorem dX12_draw_17 : decode cX12_draw 17 = .ok (.getfield 384, 3) := by decide +kernel
theorem dX12_draw_20 : decode cX12_draw 20 = .ok (.bipush 33, 2) := by decide +kernel
theorem dX12_draw_22 : decode cX12_draw 22 = .ok (.lushr, 1) := by decide +kernel
theorem dX12_draw_23 : decode cX12_draw 23 = .ok (.iload_n 1, 1) := by decide +kernel
theorem dX12_draw_24 : decode cX12_draw 24 = .ok (.i2l, 1) := by decide +kernel
theorem dX12_draw_25 : decode cX12_draw 25 = .ok (.lrem, 1) := by decide +kernel
theorem dX12_draw_26 : decode cX12_draw 26 = .ok (.l2i, 1) := by decide +kernel
theorem dX12_draw_27 : decode cX12_draw 27 = .ok (.ireturn, 1) := by decide +kernel
theorem dX12_years_0 : decode cX12_years 0 = .ok (.aload_n 0, 1) := by decide +kernel
theorem dX12_years_1 : decode cX12_years 1 = .ok (.iconst 0, 1) := by decide +kernel
theorem dX12_years_2 : decode cX12_years 2 = .ok (.putfield 103, 3) := by decide +kernel
theorem dX12_years_5 : decode cX12_years 5 = .ok (.aload_n 0, 1) := by decide +kernel
theorem dX12_years_6 : decode cX12_years 6 = .ok (.getfield 293, 3) := by decide +kernel
theorem dX12_years_9 : decode cX12_years 9 = .ok (.ifCond .eq 15, 3) := by decide +kernel
theorem dX12_years_12 : decode cX12_years 12 = .ok (.iload_n 1, 1) := by decide +kernel
theorem dX12_years_13 : decode cX12_years 13 = .ok (.i2l, 1) := by decide +kernel
theorem dX12_years_14 : decode cX12_years 14 = .ok (.lconst 1, 1) := by decide +kernel
theorem dX12_years_15 : decode cX12_years 15 = .ok (.ldc2_w 392, 3) := by decide +kernel
theorem dX12_years_18 : decode cX12_years 18 = .ok (.invokestatic 224, 3) := by decide +kernel
theorem dX12_years_21 : decode cX12_years 21 = .ok (.ifCond .ne 5, 3) := by decide +kernel
theorem dX12_years_24 : decode cX12_years 24 = .ok (.iconst (-1), 1) := by decide +kernel
theorem dX12_years_25 : decode cX12_years 25 = .ok (.ireturn, 1) := by decide +kernel
theorem dX12_years_26 : decode cX12_years 26 = .ok (.aload_n 0, 1) := by decide +kernel
theorem dX12_years_27 : decode cX12_years 27 = .ok (.lload_n 2, 1) := by decide +kernel
theorem dX12_years_28 : decode cX12_years 28 = .ok (.putfield 384, 3) := by decide +kernel
theorem dX12_years_31 : decode cX12_years 31 = .ok (.iconst 0, 1) := by decide +kernel
theorem dX12_years_32 : decode cX12_years 32 = .ok (.istore 4, 2) := by decide +kernel
theorem dX12_years_34 : decode cX12_years 34 = .ok (.iconst 0, 1) := by decide +kernel
theorem dX12_years_35 : decode cX12_years 35 = .ok (.istore 5, 2) := by decide +kernel
theorem dX12_years_37 : decode cX12_years 37 = .ok (.iload 5, 2) := by decide +kernel
theorem dX12_years_39 : decode cX12_years 39 = .ok (.iload_n 1, 1) := by decide +kernel
theorem dX12_years_40 : decode cX12_years 40 = .ok (.if_icmp .ge 115, 3) := by decide +kernel
theorem dX12_years_43 : decode cX12_years 43 = .ok (.aload_n 0, 1) := by decide +kernel
theorem dX12_years_44 : decode cX12_years 44 = .ok (.invokevirtual 357, 3) := by decide +kernel
theorem dX12_years_47 : decode cX12_years 47 = .ok (.aload_n 0, 1) := by decide +kernel
theorem dX12_years_48 : decode cX12_years 48 = .ok (.bipush 10, 2) := by decide +kernel
theorem dX12_years_50 : decode cX12_years 50 = .ok (.invokevirtual 394, 3) := by decide +kernel
theorem dX12_years_53 : decode cX12_years 53 = .ok (.aload_n 0, 1) := by decide +kernel
theorem dX12_years_54 : decode cX12_years 54 = .ok (.getfield 65, 3) := by decide +kernel
theorem dX12_years_57 : decode cX12_years 57 = .ok (.if_icmp .ge 27, 3) := by decide +kernel
theorem dX12_years_60 : decode cX12_years 60 = .ok (.aload_n 0, 1) := by decide +kernel
theorem dX12_years_61 : decode cX12_years 61 = .ok (.getfield 55, 3) := by decide +kernel
theorem dX12_years_64 : decode cX12_years 64 = .ok (.bipush 27, 2) := by decide +kernel
theorem dX12_years_66 : decode cX12_years 66 = .ok (.iaload, 1) := by decide +kernel
theorem dX12_years_67 : decode cX12_years 67 = .ok (.sipush 999, 3) := by decide +kernel
theorem dX12_years_70 : decode cX12_years 70 = .ok (.if_icmp .ge 79, 3) := by decide +kernel
theorem dX12_years_73 : decode cX12_years 73 = .ok (.aload_n 0, 1) := by decide +kernel
theorem dX12_years_74 : decode cX12_years 74 = .ok (.aload_n 0, 1) := by decide +kernel
theorem dX12_years_75 : decode cX12_years 75 = .ok (.getfield 55, 3) := by decide +kernel
theorem dX12_years_78 : decode cX12_years 78 = .ok (.invokevirtual 381, 3) := by decide +kernel
theorem dX12_years_81 : decode cX12_years 81 = .ok (.goto 68, 3) := by decide +kernel
theorem dX12_years_84 : decode cX12_years 84 = .ok (.aload_n 0, 1) := by decide +kernel
theorem dX12_years_85 : decode cX12_years 85 = .ok (.aload_n 0, 1) := by decide +kernel
theorem dX12_years_86 : decode cX12_years 86 = .ok (.getfield 293, 3) := by decide +kernel
theorem dX12_years_89 : decode cX12_years 89 = .ok (.invokevirtual 394, 3) := by decide +kernel
theorem dX12_years_92 : decode cX12_years 92 = .ok (.istore 6, 2) := by decide +kernel
theorem dX12_years_94 : decode cX12_years 94 = .ok (.aload_n 0, 1) := by decide +kernel
theorem dX12_years_95 : decode cX12_years 95 = .ok (.aload_n 0, 1) := by decide +kernel
theorem dX12_years_96 : decode cX12_years 96 = .ok (.getfield 55, 3) := by decide +kernel
theorem dX12_years_99 : decode cX12_years 99 = .ok (.iload 6, 2) := by decide +kernel
theorem dX12_years_101 : decode cX12_years 101 = .ok (.invokevirtual 353, 3) := by decide +kernel
theorem dX12_years_104 : decode cX12_years 104 = .ok (.ifCond .eq 27, 3) := by decide +kernel
theorem dX12_years_107 : decode cX12_years 107 = .ok (.aload_n 0, 1) := by decide +kernel
theorem dX12_years_108 : decode cX12_years 108 = .ok (.aload_n 0, 1) := by decide +kernel
theorem dX12_years_109 : decode cX12_years 109 = .ok (.getfield 55, 3) := by decide +kernel
theorem dX12_years_112 : decode cX12_years 112 = .ok (.iload 6, 2) := by decide +kernel
theorem dX12_years_114 : decode cX12_years 114 = .ok (.aload_n 0, 1) := by decide +kernel
theorem dX12_years_115 : decode cX12_years 115 = .ok (.getfield 37, 3) := by decide +kernel
theorem dX12_years_118 : decode cX12_years 118 = .ok (.iconst 2, 1) := by decide +kernel
theorem dX12_years_119 : decode cX12_years 119 = .ok (.iaload, 1) := by decide +kernel
theorem dX12_years_120 : decode cX12_years 120 = .ok (.invokevirtual 360, 3) := by decide +kernel
theorem dX12_years_123 : decode cX12_years 123 = .ok (.istore 7, 2) := by decide +kernel
theorem dX12_years_125 : decode cX12_years 125 = .ok (.iinc 4 1, 3) := by decide +kernel
theorem dX12_years_128 : decode cX12_years 128 = .ok (.goto 21, 3) := by decide +kernel
theorem dX12_years_131 : decode cX12_years 131 = .ok (.aload_n 0, 1) := by decide +kernel
theorem dX12_years_132 : decode cX12_years 132 = .ok (.aload_n 0, 1) := by decide +kernel
theorem dX12_years_133 : decode cX12_years 133 = .ok (.getfield 55, 3) := by decide +kernel
theorem dX12_years_136 : decode cX12_years 136 = .ok (.invokevirtual 364, 3) := by decide +kernel
theorem dX12_years_139 : decode cX12_years 139 = .ok (.ifCond .eq 10, 3) := by decide +kernel
theorem dX12_years_142 : decode cX12_years 142 = .ok (.aload_n 0, 1) := by decide +kernel
theorem dX12_years_143 : decode cX12_years 143 = .ok (.getfield 55, 3) := by decide +kernel
theorem dX12_years_146 : decode cX12_years 146 = .ok (.invokestatic 368, 3) := by decide +kernel
theorem dX12_years_149 : decode cX12_years 149 = .ok (.iinc 5 1, 3) := by decide +kernel
theorem dX12_years_152 : decode cX12_years 152 = .ok (.goto (-115), 3) := by decide +kernel
theorem dX12_years_155 : decode cX12_years 155 = .ok (.iload 4, 2) := by decide +kernel
theorem dX12_years_157 : decode cX12_years 157 = .ok (.ireturn, 1) := by decide +kernel
theorem dX12_undo_0 : decode cX12_undo 0 = .ok (.aload_n 0, 1) := by decide +kernel
theorem dX12_undo_1 : decode cX12_undo 1 = .ok (.iconst 0, 1) := by decide +kernel
theorem dX12_undo_2 : decode cX12_undo 2 = .ok (.putfield 103, 3) := by decide +kernel
theorem dX12_undo_5 : decode cX12_undo 5 = .ok (.aload_n 0, 1) := by decide +kernel
theorem dX12_undo_6 : decode cX12_undo 6 = .ok (.getfield 299, 3) := by decide +kernel
theorem dX12_undo_9 : decode cX12_undo 9 = .ok (.ifCond .ne 5, 3) := by decide +kernel
theorem dX12_undo_12 : decode cX12_undo 12 = .ok (.iconst (-1), 1) := by decide +kernel
theorem dX12_undo_13 : decode cX12_undo 13 = .ok (.ireturn, 1) := by decide +kernel
theorem dX12_undo_14 : decode cX12_undo 14 = .ok (.aload_n 0, 1) := by decide +kernel
theorem dX12_undo_15 : decode cX12_undo 15 = .ok (.dup, 1) := by decide +kernel
theorem dX12_undo_16 : decode cX12_undo 16 = .ok (.getfield 299, 3) := by decide +kernel
theorem dX12_undo_19 : decode cX12_undo 19 = .ok (.iconst 1, 1) := by decide +kernel
theorem dX12_undo_20 : decode cX12_undo 20 = .ok (.isub, 1) := by decide +kernel
theorem dX12_undo_21 : decode cX12_undo 21 = .ok (.putfield 299, 3) := by decide +kernel
theorem dX12_undo_24 : decode cX12_undo 24 = .ok (.iconst 0, 1) := by decide +kernel
theorem dX12_undo_25 : decode cX12_undo 25 = .ok (.istore_n 1, 1) := by decide +kernel
theorem dX12_undo_26 : decode cX12_undo 26 = .ok (.iload_n 1, 1) := by decide +kernel
theorem dX12_undo_27 : decode cX12_undo 27 = .ok (.sipush 209, 3) := by decide +kernel
theorem dX12_undo_30 : decode cX12_undo 30 = .ok (.if_icmp .ge 30, 3) := by decide +kernel
theorem dX12_undo_33 : decode cX12_undo 33 = .ok (.aload_n 0, 1) := by decide +kernel
theorem dX12_undo_34 : decode cX12_undo 34 = .ok (.getfield 55, 3) := by decide +kernel
theorem dX12_undo_37 : decode cX12_undo 37 = .ok (.iload_n 1, 1) := by decide +kernel
theorem dX12_undo_38 : decode cX12_undo 38 = .ok (.aload_n 0, 1) := by decide +kernel
theorem dX12_undo_39 : decode cX12_undo 39 = .ok (.getfield 75, 3) := by decide +kernel
theorem dX12_undo_42 : decode cX12_undo 42 = .ok (.sipush 209, 3) := by decide +kernel
theorem dX12_undo_45 : decode cX12_undo 45 = .ok (.aload_n 0, 1) := by decide +kernel
theorem dX12_undo_46 : decode cX12_undo 46 = .ok (.getfield 299, 3) := by decide +kernel
theorem dX12_undo_49 : decode cX12_undo 49 = .ok (.imul, 1) := by decide +kernel
theorem dX12_undo_50 : decode cX12_undo 50 = .ok (.iload_n 1, 1) := by decide +kernel
theorem dX12_undo_51 : decode cX12_undo 51 = .ok (.iadd, 1) := by decide +kernel
theorem dX12_undo_52 : decode cX12_undo 52 = .ok (.iaload, 1) := by decide +kernel
theorem dX12_undo_53 : decode cX12_undo 53 = .ok (.iastore, 1) := by decide +kernel
theorem dX12_undo_54 : decode cX12_undo 54 = .ok (.iinc 1 1, 3) := by decide +kernel
theorem dX12_undo_57 : decode cX12_undo 57 = .ok (.goto (-31), 3) := by decide +kernel
theorem dX12_undo_60 : decode cX12_undo 60 = .ok (.aload_n 0, 1) := by decide +kernel
theorem dX12_undo_61 : decode cX12_undo 61 = .ok (.getfield 299, 3) := by decide +kernel
theorem dX12_undo_64 : decode cX12_undo 64 = .ok (.ireturn, 1) := by decide +kernel
theorem dX12_log_0 : decode cX12_log 0 = .ok (.aload_n 0, 1) := by decide +kernel
theorem dX12_log_1 : decode cX12_log 1 = .ok (.iconst 0, 1) := by decide +kernel
theorem dX12_log_2 : decode cX12_log 2 = .ok (.putfield 103, 3) := by decide +kernel
theorem dX12_log_5 : decode cX12_log 5 = .ok (.iload_n 1, 1) := by decide +kernel
theorem dX12_log_6 : decode cX12_log 6 = .ok (.i2l, 1) := by decide +kernel
theorem dX12_log_7 : decode cX12_log 7 = .ok (.lconst 0, 1) := by decide +kernel
theorem dX12_log_8 : decode cX12_log 8 = .ok (.aload_n 0, 1) := by decide +kernel
theorem dX12_log_9 : decode cX12_log 9 = .ok (.getfield 55, 3) := by decide +kernel
theorem dX12_log_12 : decode cX12_log 12 = .ok (.bipush 28, 2) := by decide +kernel
theorem dX12_log_14 : decode cX12_log 14 = .ok (.iaload, 1) := by decide +kernel
theorem dX12_log_15 : decode cX12_log 15 = .ok (.iconst 1, 1) := by decide +kernel
theorem dX12_log_16 : decode cX12_log 16 = .ok (.isub, 1) := by decide +kernel
theorem dX12_log_17 : decode cX12_log 17 = .ok (.i2l, 1) := by decide +kernel
theorem dX12_log_18 : decode cX12_log 18 = .ok (.invokestatic 224, 3) := by decide +kernel
theorem dX12_log_21 : decode cX12_log 21 = .ok (.ifCond .eq 41, 3) := by decide +kernel
theorem dX12_log_24 : decode cX12_log 24 = .ok (.iload_n 2, 1) := by decide +kernel
theorem dX12_log_25 : decode cX12_log 25 = .ok (.i2l, 1) := by decide +kernel
theorem dX12_log_26 : decode cX12_log 26 = .ok (.lconst 0, 1) := by decide +kernel
theorem dX12_log_27 : decode cX12_log 27 = .ok (.ldc2_w 274, 3) := by decide +kernel
theorem dX12_log_30 : decode cX12_log 30 = .ok (.invokestatic 224, 3) := by decide +kernel
theorem dX12_log_33 : decode cX12_log 33 = .ok (.ifCond .eq 29, 3) := by decide +kernel
theorem dX12_log_36 : decode cX12_log 36 = .ok (.aload_n 0, 1) := by decide +kernel
theorem dX12_log_37 : decode cX12_log 37 = .ok (.getfield 55, 3) := by decide +kernel
theorem dX12_log_40 : decode cX12_log 40 = .ok (.bipush 29, 2) := by decide +kernel
theorem dX12_log_42 : decode cX12_log 42 = .ok (.iconst 3, 1) := by decide +kernel
theorem dX12_log_43 : decode cX12_log 43 = .ok (.aload_n 0, 1) := by decide +kernel
theorem dX12_log_44 : decode cX12_log 44 = .ok (.getfield 55, 3) := by decide +kernel
theorem dX12_log_47 : decode cX12_log 47 = .ok (.bipush 28, 2) := by decide +kernel
theorem dX12_log_49 : decode cX12_log 49 = .ok (.iaload, 1) := by decide +kernel
theorem dX12_log_50 : decode cX12_log 50 = .ok (.iconst 1, 1) := by decide +kernel
theorem dX12_log_51 : decode cX12_log 51 = .ok (.isub, 1) := by decide +kernel
theorem dX12_log_52 : decode cX12_log 52 = .ok (.iload_n 1, 1) := by decide +kernel
theorem dX12_log_53 : decode cX12_log 53 = .ok (.isub, 1) := by decide +kernel
theorem dX12_log_54 : decode cX12_log 54 = .ok (.imul, 1) := by decide +kernel
theorem dX12_log_55 : decode cX12_log 55 = .ok (.iadd, 1) := by decide +kernel
theorem dX12_log_56 : decode cX12_log 56 = .ok (.iload_n 2, 1) := by decide +kernel
theorem dX12_log_57 : decode cX12_log 57 = .ok (.iadd, 1) := by decide +kernel
theorem dX12_log_58 : decode cX12_log 58 = .ok (.iaload, 1) := by decide +kernel
theorem dX12_log_59 : decode cX12_log 59 = .ok (.goto 4, 3) := by decide +kernel
theorem dX12_log_62 : decode cX12_log 62 = .ok (.iconst (-1), 1) := by decide +kernel
theorem dX12_log_63 : decode cX12_log 63 = .ok (.ireturn, 1) := by decide +kernel
theorem dX12_isPlan_0 : decode cX12_isPlan 0 = .ok (.iload_n 1, 1) := by decide +kernel
theorem dX12_isPlan_1 : decode cX12_isPlan 1 = .ok (.ifCond .lt 15, 3) := by decide +kernel
theorem dX12_isPlan_4 : decode cX12_isPlan 4 = .ok (.iload_n 1, 1) := by decide +kernel
theorem dX12_isPlan_5 : decode cX12_isPlan 5 = .ok (.aload_n 0, 1) := by decide +kernel
theorem dX12_isPlan_6 : decode cX12_isPlan 6 = .ok (.getfield 288, 3) := by decide +kernel
theorem dX12_isPlan_9 : decode cX12_isPlan 9 = .ok (.if_icmp .ge 7, 3) := by decide +kernel
theorem dX12_isPlan_12 : decode cX12_isPlan 12 = .ok (.iconst 1, 1) := by decide +kernel
theorem dX12_isPlan_13 : decode cX12_isPlan 13 = .ok (.goto 4, 3) := by decide +kernel
theorem dX12_isPlan_16 : decode cX12_isPlan 16 = .ok (.iconst 0, 1) := by decide +kernel
theorem dX12_isPlan_17 : decode cX12_isPlan 17 = .ok (.ireturn, 1) := by decide +kernel
theorem dX12_step_0 : decode cX12_step 0 = .ok (.aload_n 0, 1) := by decide +kernel
theorem dX12_step_1 : decode cX12_step 1 = .ok (.iconst 0, 1) := by decide +kernel
theorem dX12_step_2 : decode cX12_step 2 = .ok (.putfield 103, 3) := by decide +kernel
theorem dX12_step_5 : decode cX12_step 5 = .ok (.aload_n 0, 1) := by decide +kernel
theorem dX12_step_6 : decode cX12_step 6 = .ok (.iload_n 1, 1) := by decide +kernel
theorem dX12_step_7 : decode cX12_step 7 = .ok (.invokevirtual 397, 3) := by decide +kernel
theorem dX12_step_10 : decode cX12_step 10 = .ok (.ifCond .eq 49, 3) := by decide +kernel
theorem dX12_step_13 : decode cX12_step 13 = .ok (.iload_n 2, 1) := by decide +kernel
theorem dX12_step_14 : decode cX12_step 14 = .ok (.i2l, 1) := by decide +kernel
theorem dX12_step_15 : decode cX12_step 15 = .ok (.lconst 0, 1) := by decide +kernel
theorem dX12_step_16 : decode cX12_step 16 = .ok (.aload_n 0, 1) := by decide +kernel
theorem dX12_step_17 : decode cX12_step 17 = .ok (.getfield 52, 3) := by decide +kernel
theorem dX12_step_20 : decode cX12_step 20 = .ok (.iload_n 1, 1) := by decide +kernel
theorem dX12_step_21 : decode cX12_step 21 = .ok (.iaload, 1) := by decide +kernel
theorem dX12_step_22 : decode cX12_step 22 = .ok (.iconst 1, 1) := by decide +kernel
theorem dX12_step_23 : decode cX12_step 23 = .ok (.isub, 1) := by decide +kernel
theorem dX12_step_24 : decode cX12_step 24 = .ok (.i2l, 1) := by decide +kernel
theorem dX12_step_25 : decode cX12_step 25 = .ok (.invokestatic 224, 3) := by decide +kernel
theorem dX12_step_28 : decode cX12_step 28 = .ok (.ifCond .eq 31, 3) := by decide +kernel
theorem dX12_step_31 : decode cX12_step 31 = .ok (.iload_n 3, 1) := by decide +kernel
theorem dX12_step_32 : decode cX12_step 32 = .ok (.i2l, 1) := by decide +kernel
theorem dX12_step_33 : decode cX12_step 33 = .ok (.lconst 0, 1) := by decide +kernel
theorem dX12_step_34 : decode cX12_step 34 = .ok (.lconst 1, 1) := by decide +kernel
theorem dX12_step_35 : decode cX12_step 35 = .ok (.invokestatic 224, 3) := by decide +kernel
theorem dX12_step_38 : decode cX12_step 38 = .ok (.ifCond .eq 21, 3) := by decide +kernel
theorem dX12_step_41 : decode cX12_step 41 = .ok (.aload_n 0, 1) := by decide +kernel
theorem dX12_step_42 : decode cX12_step 42 = .ok (.getfield 49, 3) := by decide +kernel
theorem dX12_step_45 : decode cX12_step 45 = .ok (.iconst 2, 1) := by decide +kernel
theorem dX12_step_46 : decode cX12_step 46 = .ok (.bipush 16, 2) := by decide +kernel
theorem dX12_step_48 : decode cX12_step 48 = .ok (.iload_n 1, 1) := by decide +kernel
theorem dX12_step_49 : decode cX12_step 49 = .ok (.imul, 1) := by decide +kernel
theorem dX12_step_50 : decode cX12_step 50 = .ok (.iload_n 2, 1) := by decide +kernel
theorem dX12_step_51 : decode cX12_step 51 = .ok (.iadd, 1) := by decide +kernel
theorem dX12_step_52 : decode cX12_step 52 = .ok (.imul, 1) := by decide +kernel
theorem dX12_step_53 : decode cX12_step 53 = .ok (.iload_n 3, 1) := by decide +kernel
theorem dX12_step_54 : decode cX12_step 54 = .ok (.iadd, 1) := by decide +kernel
theorem dX12_step_55 : decode cX12_step 55 = .ok (.iaload, 1) := by decide +kernel
theorem dX12_step_56 : decode cX12_step 56 = .ok (.goto 6, 3) := by decide +kernel
theorem dX12_step_59 : decode cX12_step 59 = .ok (.ldc_w 400, 3) := by decide +kernel
theorem dX12_step_62 : decode cX12_step 62 = .ok (.ireturn, 1) := by decide +kernel
theorem dX12_canStep_0 : decode cX12_canStep 0 = .ok (.aload_n 0, 1) := by decide +kernel
theorem dX12_canStep_1 : decode cX12_canStep 1 = .ok (.getfield 49, 3) := by decide +kernel
theorem dX12_canStep_4 : decode cX12_canStep 4 = .ok (.iload_n 2, 1) := by decide +kernel
theorem dX12_canStep_5 : decode cX12_canStep 5 = .ok (.iaload, 1) := by decide +kernel
theorem dX12_canStep_6 : decode cX12_canStep 6 = .ok (.tableswitch 60 0 2 #[26, 40, 46], 26) := by decide +kernel
theorem dX12_canStep_32 : decode cX12_canStep 32 = .ok (.aload_n 0, 1) := by decide +kernel
theorem dX12_canStep_33 : decode cX12_canStep 33 = .ok (.aload_n 1, 1) := by decide +kernel
theorem dX12_canStep_34 : decode cX12_canStep 34 = .ok (.aload_n 0, 1) := by decide +kernel
theorem dX12_canStep_35 : decode cX12_canStep 35 = .ok (.getfield 49, 3) := by decide +kernel
theorem dX12_canStep_38 : decode cX12_canStep 38 = .ok (.iload_n 2, 1) := by decide +kernel
theorem dX12_canStep_39 : decode cX12_canStep 39 = .ok (.iconst 1, 1) := by decide +kernel
theorem dX12_canStep_40 : decode cX12_canStep 40 = .ok (.iadd, 1) := by decide +kernel
theorem dX12_canStep_41 : decode cX12_canStep 41 = .ok (.iaload, 1) := by decide +kernel
theorem dX12_canStep_42 : decode cX12_canStep 42 = .ok (.invokevirtual 353, 3) := by decide +kernel
theorem dX12_canStep_45 : decode cX12_canStep 45 = .ok (.ireturn, 1) := by decide +kernel
theorem dX12_canStep_46 : decode cX12_canStep 46 = .ok (.aload_n 0, 1) := by decide +kernel
theorem dX12_canStep_47 : decode cX12_canStep 47 = .ok (.aload_n 1, 1) := by decide +kernel
theorem dX12_canStep_48 : decode cX12_canStep 48 = .ok (.invokevirtual 364, 3) := by decide +kernel
theorem dX12_canStep_51 : decode cX12_canStep 51 = .ok (.ireturn, 1) := by decide +kernel
theorem dX12_canStep_52 : decode cX12_canStep 52 = .ok (.aload_n 0, 1) := by decide +kernel
theorem dX12_canStep_53 : decode cX12_canStep 53 = .ok (.aload_n 1, 1) := by decide +kernel
theorem dX12_canStep_54 : decode cX12_canStep 54 = .ok (.aload_n 0, 1) := by decide +kernel
theorem dX12_canStep_55 : decode cX12_canStep 55 = .ok (.getfield 49, 3) := by decide +kernel
theorem dX12_canStep_58 : decode cX12_canStep 58 = .ok (.iload_n 2, 1) := by decide +kernel
theorem dX12_canStep_59 : decode cX12_canStep 59 = .ok (.iconst 1, 1) := by decide +kernel
theorem dX12_canStep_60 : decode cX12_canStep 60 = .ok (.iadd, 1) := by decide +kernel
theorem dX12_canStep_61 : decode cX12_canStep 61 = .ok (.iaload, 1) := by decide +kernel
theorem dX12_canStep_62 : decode cX12_canStep 62 = .ok (.invokevirtual 372, 3) := by decide +kernel
theorem dX12_canStep_65 : decode cX12_canStep 65 = .ok (.ireturn, 1) := by decide +kernel
theorem dX12_canStep_66 : decode cX12_canStep 66 = .ok (.aload_n 1, 1) := by decide +kernel
theorem dX12_canStep_67 : decode cX12_canStep 67 = .ok (.bipush 27, 2) := by decide +kernel
theorem dX12_canStep_69 : decode cX12_canStep 69 = .ok (.iaload, 1) := by decide +kernel
theorem dX12_canStep_70 : decode cX12_canStep 70 = .ok (.sipush 999, 3) := by decide +kernel
theorem dX12_canStep_73 : decode cX12_canStep 73 = .ok (.if_icmp .ge 7, 3) := by decide +kernel
theorem dX12_canStep_76 : decode cX12_canStep 76 = .ok (.iconst 1, 1) := by decide +kernel
theorem dX12_canStep_77 : decode cX12_canStep 77 = .ok (.goto 4, 3) := by decide +kernel
theorem dX12_canStep_80 : decode cX12_canStep 80 = .ok (.iconst 0, 1) := by decide +kernel
theorem dX12_canStep_81 : decode cX12_canStep 81 = .ok (.ireturn, 1) := by decide +kernel
theorem dX12_steps0_0 : decode cX12_steps0 0 = .ok (.aload_n 0, 1) := by decide +kernel
theorem dX12_steps0_1 : decode cX12_steps0 1 = .ok (.getfield 49, 3) := by decide +kernel
theorem dX12_steps0_4 : decode cX12_steps0 4 = .ok (.iload_n 2, 1) := by decide +kernel
theorem dX12_steps0_5 : decode cX12_steps0 5 = .ok (.iaload, 1) := by decide +kernel
theorem dX12_steps0_6 : decode cX12_steps0 6 = .ok (.tableswitch 71 0 2 #[26, 49, 56], 26) := by decide +kernel
theorem dX12_steps0_32 : decode cX12_steps0 32 = .ok (.aload_n 0, 1) := by decide +kernel
theorem dX12_steps0_33 : decode cX12_steps0 33 = .ok (.aload_n 1, 1) := by decide +kernel
theorem dX12_steps0_34 : decode cX12_steps0 34 = .ok (.aload_n 0, 1) := by decide +kernel
theorem dX12_steps0_35 : decode cX12_steps0 35 = .ok (.getfield 49, 3) := by decide +kernel
theorem dX12_steps0_38 : decode cX12_steps0 38 = .ok (.iload_n 2, 1) := by decide +kernel
theorem dX12_steps0_39 : decode cX12_steps0 39 = .ok (.iconst 1, 1) := by decide +kernel
theorem dX12_steps0_40 : decode cX12_steps0 40 = .ok (.iadd, 1) := by decide +kernel
theorem dX12_steps0_41 : decode cX12_steps0 41 = .ok (.iaload, 1) := by decide +kernel
theorem dX12_steps0_42 : decode cX12_steps0 42 = .ok (.aload_n 0, 1) := by decide +kernel
theorem dX12_steps0_43 : decode cX12_steps0 43 = .ok (.getfield 37, 3) := by decide +kernel
theorem dX12_steps0_46 : decode cX12_steps0 46 = .ok (.iconst 2, 1) := by decide +kernel
theorem dX12_steps0_47 : decode cX12_steps0 47 = .ok (.iaload, 1) := by decide +kernel
theorem dX12_steps0_48 : decode cX12_steps0 48 = .ok (.invokevirtual 360, 3) := by decide +kernel
theorem dX12_steps0_51 : decode cX12_steps0 51 = .ok (.istore_n 3, 1) := by decide +kernel
theorem dX12_steps0_52 : decode cX12_steps0 52 = .ok (.goto 30, 3) := by decide +kernel
theorem dX12_steps0_55 : decode cX12_steps0 55 = .ok (.aload_n 1, 1) := by decide +kernel
theorem dX12_steps0_56 : decode cX12_steps0 56 = .ok (.invokestatic 368, 3) := by decide +kernel
theorem dX12_steps0_59 : decode cX12_steps0 59 = .ok (.goto 23, 3) := by decide +kernel
theorem dX12_steps0_62 : decode cX12_steps0 62 = .ok (.aload_n 1, 1) := by decide +kernel
theorem dX12_steps0_63 : decode cX12_steps0 63 = .ok (.aload_n 0, 1) := by decide +kernel
theorem dX12_steps0_64 : decode cX12_steps0 64 = .ok (.getfield 49, 3) := by decide +kernel
theorem dX12_steps0_67 : decode cX12_steps0 67 = .ok (.iload_n 2, 1) := by decide +kernel
theorem dX12_steps0_68 : decode cX12_steps0 68 = .ok (.iconst 1, 1) := by decide +kernel
theorem dX12_steps0_69 : decode cX12_steps0 69 = .ok (.iadd, 1) := by decide +kernel
theorem dX12_steps0_70 : decode cX12_steps0 70 = .ok (.iaload, 1) := by decide +kernel
theorem dX12_steps0_71 : decode cX12_steps0 71 = .ok (.invokestatic 375, 3) := by decide +kernel
theorem dX12_steps0_74 : decode cX12_steps0 74 = .ok (.goto 8, 3) := by decide +kernel
theorem dX12_steps0_77 : decode cX12_steps0 77 = .ok (.aload_n 0, 1) := by decide +kernel
theorem dX12_steps0_78 : decode cX12_steps0 78 = .ok (.aload_n 1, 1) := by decide +kernel
theorem dX12_steps0_79 : decode cX12_steps0 79 = .ok (.invokevirtual 381, 3) := by decide +kernel
theorem dX12_steps0_82 : decode cX12_steps0 82 = .ok (.return_, 1) := by decide +kernel
theorem dX12_run_0 : decode cX12_run 0 = .ok (.aload_n 0, 1) := by decide +kernel
theorem dX12_run_1 : decode cX12_run 1 = .ok (.iconst 0, 1) := by decide +kernel
theorem dX12_run_2 : decode cX12_run 2 = .ok (.putfield 103, 3) := by decide +kernel
theorem dX12_run_5 : decode cX12_run 5 = .ok (.aload_n 0, 1) := by decide +kernel
theorem dX12_run_6 : decode cX12_run 6 = .ok (.iload_n 1, 1) := by decide +kernel
theorem dX12_run_7 : decode cX12_run 7 = .ok (.invokevirtual 397, 3) := by decide +kernel
theorem dX12_run_10 : decode cX12_run 10 = .ok (.ifCond .eq 20, 3) := by decide +kernel
theorem dX12_run_13 : decode cX12_run 13 = .ok (.aload_n 0, 1) := by decide +kernel
theorem dX12_run_14 : decode cX12_run 14 = .ok (.getfield 293, 3) := by decide +kernel
theorem dX12_run_17 : decode cX12_run 17 = .ok (.ifCond .eq 13, 3) := by decide +kernel
theorem dX12_run_20 : decode cX12_run 20 = .ok (.iload_n 2, 1) := by decide +kernel
theorem dX12_run_21 : decode cX12_run 21 = .ok (.i2l, 1) := by decide +kernel
theorem dX12_run_22 : decode cX12_run 22 = .ok (.lconst 0, 1) := by decide +kernel
theorem dX12_run_23 : decode cX12_run 23 = .ok (.lconst 1, 1) := by decide +kernel
theorem dX12_run_24 : decode cX12_run 24 = .ok (.invokestatic 224, 3) := by decide +kernel
theorem dX12_run_27 : decode cX12_run 27 = .ok (.ifCond .ne 7, 3) := by decide +kernel
theorem dX12_run_30 : decode cX12_run 30 = .ok (.ldc_w 400, 3) := by decide +kernel
theorem dX12_run_33 : decode cX12_run 33 = .ok (.ireturn, 1) := by decide +kernel
theorem dX12_run_34 : decode cX12_run 34 = .ok (.aload_n 0, 1) := by decide +kernel
theorem dX12_run_35 : decode cX12_run 35 = .ok (.getfield 55, 3) := by decide +kernel
theorem dX12_run_38 : decode cX12_run 38 = .ok (.aload_n 0, 1) := by decide +kernel
theorem dX12_run_39 : decode cX12_run 39 = .ok (.getfield 58, 3) := by decide +kernel
theorem dX12_run_42 : decode cX12_run 42 = .ok (.invokestatic 401, 3) := by decide +kernel
theorem dX12_run_45 : decode cX12_run 45 = .ok (.iconst 0, 1) := by decide +kernel
theorem dX12_run_46 : decode cX12_run 46 = .ok (.istore_n 3, 1) := by decide +kernel
theorem dX12_run_47 : decode cX12_run 47 = .ok (.iload_n 3, 1) := by decide +kernel
theorem dX12_run_48 : decode cX12_run 48 = .ok (.aload_n 0, 1) := by decide +kernel
theorem dX12_run_49 : decode cX12_run 49 = .ok (.getfield 52, 3) := by decide +kernel
theorem dX12_run_52 : decode cX12_run 52 = .ok (.iload_n 1, 1) := by decide +kernel
theorem dX12_run_53 : decode cX12_run 53 = .ok (.iaload, 1) := by decide +kernel
theorem dX12_run_54 : decode cX12_run 54 = .ok (.if_icmp .ge 44, 3) := by decide +kernel
theorem dX12_run_57 : decode cX12_run 57 = .ok (.aload_n 0, 1) := by decide +kernel
theorem dX12_run_58 : decode cX12_run 58 = .ok (.aload_n 0, 1) := by decide +kernel
theorem dX12_run_59 : decode cX12_run 59 = .ok (.getfield 58, 3) := by decide +kernel
theorem dX12_run_62 : decode cX12_run 62 = .ok (.iconst 2, 1) := by decide +kernel
theorem dX12_run_63 : decode cX12_run 63 = .ok (.bipush 16, 2) := by decide +kernel
theorem dX12_run_65 : decode cX12_run 65 = .ok (.iload_n 1, 1) := by decide +kernel
theorem dX12_run_66 : decode cX12_run 66 = .ok (.imul, 1) := by decide +kernel
theorem dX12_run_67 : decode cX12_run 67 = .ok (.iload_n 3, 1) := by decide +kernel
theorem dX12_run_68 : decode cX12_run 68 = .ok (.iadd, 1) := by decide +kernel
theorem dX12_run_69 : decode cX12_run 69 = .ok (.imul, 1) := by decide +kernel
theorem dX12_run_70 : decode cX12_run 70 = .ok (.invokevirtual 405, 3) := by decide +kernel
theorem dX12_run_73 : decode cX12_run 73 = .ok (.ifCond .eq 25, 3) := by decide +kernel
theorem dX12_run_76 : decode cX12_run 76 = .ok (.aload_n 0, 1) := by decide +kernel
theorem dX12_run_77 : decode cX12_run 77 = .ok (.aload_n 0, 1) := by decide +kernel
theorem dX12_run_78 : decode cX12_run 78 = .ok (.getfield 58, 3) := by decide +kernel
theorem dX12_run_81 : decode cX12_run 81 = .ok (.iconst 2, 1) := by decide +kernel
theorem dX12_run_82 : decode cX12_run 82 = .ok (.bipush 16, 2) := by decide +kernel
theorem dX12_run_84 : decode cX12_run 84 = .ok (.iload_n 1, 1) := by decide +kernel
theorem dX12_run_85 : decode cX12_run 85 = .ok (.imul, 1) := by decide +kernel
theorem dX12_run_86 : decode cX12_run 86 = .ok (.iload_n 3, 1) := by decide +kernel
theorem dX12_run_87 : decode cX12_run 87 = .ok (.iadd, 1) := by decide +kernel
theorem dX12_run_88 : decode cX12_run 88 = .ok (.imul, 1) := by decide +kernel
theorem dX12_run_89 : decode cX12_run 89 = .ok (.invokevirtual 408, 3) := by decide +kernel
theorem dX12_run_92 : decode cX12_run 92 = .ok (.iinc 3 1, 3) := by decide +kernel
theorem dX12_run_95 : decode cX12_run 95 = .ok (.goto (-48), 3) := by decide +kernel
theorem dX12_run_98 : decode cX12_run 98 = .ok (.iload_n 2, 1) := by decide +kernel
theorem dX12_run_99 : decode cX12_run 99 = .ok (.iconst 1, 1) := by decide +kernel
theorem dX12_run_100 : decode cX12_run 100 = .ok (.if_icmp .ne 19, 3) := by decide +kernel
theorem dX12_run_103 : decode cX12_run 103 = .ok (.aload_n 0, 1) := by decide +kernel
theorem dX12_run_104 : decode cX12_run 104 = .ok (.getfield 58, 3) := by decide +kernel
theorem dX12_run_107 : decode cX12_run 107 = .ok (.bipush 25, 2) := by decide +kernel
theorem dX12_run_109 : decode cX12_run 109 = .ok (.iaload, 1) := by decide +kernel
theorem dX12_run_110 : decode cX12_run 110 = .ok (.aload_n 0, 1) := by decide +kernel
theorem dX12_run_111 : decode cX12_run 111 = .ok (.getfield 55, 3) := by decide +kernel
theorem dX12_run_114 : decode cX12_run 114 = .ok (.bipush 25, 2) := by decide +kernel
theorem dX12_run_116 : decode cX12_run 116 = .ok (.iaload, 1) := by decide +kernel
theorem dX12_run_117 : decode cX12_run 117 = .ok (.isub, 1) := by decide +kernel
theorem dX12_run_118 : decode cX12_run 118 = .ok (.ireturn, 1) := by decide +kernel
theorem dX12_run_119 : decode cX12_run 119 = .ok (.iload_n 3, 1) := by decide +kernel
theorem dX12_run_120 : decode cX12_run 120 = .ok (.aload_n 0, 1) := by decide +kernel
theorem dX12_run_121 : decode cX12_run 121 = .ok (.getfield 52, 3) := by decide +kernel
theorem dX12_run_124 : decode cX12_run 124 = .ok (.iload_n 1, 1) := by decide +kernel
theorem dX12_run_125 : decode cX12_run 125 = .ok (.iaload, 1) := by decide +kernel
theorem dX12_run_126 : decode cX12_run 126 = .ok (.if_icmp .ne 7, 3) := by decide +kernel
theorem dX12_run_129 : decode cX12_run 129 = .ok (.iconst (-1), 1) := by decide +kernel
theorem dX12_run_130 : decode cX12_run 130 = .ok (.goto 4, 3) := by decide +kernel
theorem dX12_run_133 : decode cX12_run 133 = .ok (.iload_n 3, 1) := by decide +kernel
theorem dX12_run_134 : decode cX12_run 134 = .ok (.ireturn, 1) := by decide +kernel
theorem dX12_perform_0 : decode cX12_perform 0 = .ok (.aload_n 0, 1) := by decide +kernel
theorem dX12_perform_1 : decode cX12_perform 1 = .ok (.iconst 0, 1) := by decide +kernel
theorem dX12_perform_2 : decode cX12_perform 2 = .ok (.putfield 103, 3) := by decide +kernel
theorem dX12_perform_5 : decode cX12_perform 5 = .ok (.aload_n 0, 1) := by decide +kernel
theorem dX12_perform_6 : decode cX12_perform 6 = .ok (.iload_n 1, 1) := by decide +kernel
theorem dX12_perform_7 : decode cX12_perform 7 = .ok (.invokevirtual 397, 3) := by decide +kernel
theorem dX12_perform_10 : decode cX12_perform 10 = .ok (.ifCond .eq 10, 3) := by decide +kernel
theorem dX12_perform_13 : decode cX12_perform 13 = .ok (.aload_n 0, 1) := by decide +kernel
theorem dX12_perform_14 : decode cX12_perform 14 = .ok (.getfield 293, 3) := by decide +kernel
theorem dX12_perform_17 : decode cX12_perform 17 = .ok (.ifCond .ne 5, 3) := by decide +kernel
theorem dX12_perform_20 : decode cX12_perform 20 = .ok (.iconst (-1), 1) := by decide +kernel
theorem dX12_perform_21 : decode cX12_perform 21 = .ok (.ireturn, 1) := by decide +kernel
theorem dX12_perform_22 : decode cX12_perform 22 = .ok (.iconst 0, 1) := by decide +kernel
theorem dX12_perform_23 : decode cX12_perform 23 = .ok (.istore_n 2, 1) := by decide +kernel
theorem dX12_perform_24 : decode cX12_perform 24 = .ok (.iload_n 2, 1) := by decide +kernel
theorem dX12_perform_25 : decode cX12_perform 25 = .ok (.aload_n 0, 1) := by decide +kernel
theorem dX12_perform_26 : decode cX12_perform 26 = .ok (.getfield 52, 3) := by decide +kernel
theorem dX12_perform_29 : decode cX12_perform 29 = .ok (.iload_n 1, 1) := by decide +kernel
theorem dX12_perform_30 : decode cX12_perform 30 = .ok (.iaload, 1) := by decide +kernel
theorem dX12_perform_31 : decode cX12_perform 31 = .ok (.if_icmp .ge 48, 3) := by decide +kernel
theorem dX12_perform_34 : decode cX12_perform 34 = .ok (.aload_n 0, 1) := by decide +kernel
theorem dX12_perform_35 : decode cX12_perform 35 = .ok (.aload_n 0, 1) := by decide +kernel
theorem dX12_perform_36 : decode cX12_perform 36 = .ok (.getfield 55, 3) := by decide +kernel
theorem dX12_perform_39 : decode cX12_perform 39 = .ok (.iconst 2, 1) := by decide +kernel
theorem dX12_perform_40 : decode cX12_perform 40 = .ok (.bipush 16, 2) := by decide +kernel
theorem dX12_perform_42 : decode cX12_perform 42 = .ok (.iload_n 1, 1) := by decide +kernel
theorem dX12_perform_43 : decode cX12_perform 43 = .ok (.imul, 1) := by decide +kernel
theorem dX12_perform_44 : decode cX12_perform 44 = .ok (.iload_n 2, 1) := by decide +kernel
theorem dX12_perform_45 : decode cX12_perform 45 = .ok (.iadd, 1) := by decide +kernel
theorem dX12_perform_46 : decode cX12_perform 46 = .ok (.imul, 1) := by decide +kernel
theorem dX12_perform_47 : decode cX12_perform 47 = .ok (.invokevirtual 405, 3) := by decide +kernel
theorem dX12_perform_50 : decode cX12_perform 50 = .ok (.ifCond .eq 29, 3) := by decide +kernel
theorem dX12_perform_53 : decode cX12_perform 53 = .ok (.aload_n 0, 1) := by decide +kernel
theorem dX12_perform_54 : decode cX12_perform 54 = .ok (.invokevirtual 357, 3) := by decide +kernel
theorem dX12_perform_57 : decode cX12_perform 57 = .ok (.aload_n 0, 1) := by decide +kernel
theorem dX12_perform_58 : decode cX12_perform 58 = .ok (.aload_n 0, 1) := by decide +kernel
theorem dX12_perform_59 : decode cX12_perform 59 = .ok (.getfield 55, 3) := by decide +kernel
theorem dX12_perform_62 : decode cX12_perform 62 = .ok (.iconst 2, 1) := by decide +kernel
theorem dX12_perform_63 : decode cX12_perform 63 = .ok (.bipush 16, 2) := by decide +kernel
theorem dX12_perform_65 : decode cX12_perform 65 = .ok (.iload_n 1, 1) := by decide +kernel
theorem dX12_perform_66 : decode cX12_perform 66 = .ok (.imul, 1) := by decide +kernel
theorem dX12_perform_67 : decode cX12_perform 67 = .ok (.iload_n 2, 1) := by decide +kernel
theorem dX12_perform_68 : decode cX12_perform 68 = .ok (.iadd, 1) := by decide +kernel
theorem dX12_perform_69 : decode cX12_perform 69 = .ok (.imul, 1) := by decide +kernel
theorem dX12_perform_70 : decode cX12_perform 70 = .ok (.invokevirtual 408, 3) := by decide +kernel
theorem dX12_perform_73 : decode cX12_perform 73 = .ok (.iinc 2 1, 3) := by decide +kernel
theorem dX12_perform_76 : decode cX12_perform 76 = .ok (.goto (-52), 3) := by decide +kernel
theorem dX12_perform_79 : decode cX12_perform 79 = .ok (.iload_n 2, 1) := by decide +kernel
theorem dX12_perform_80 : decode cX12_perform 80 = .ok (.ireturn, 1) := by decide +kernel
theorem dX12_troubles_0 : decode cX12_troubles 0 = .ok (.aload_n 0, 1) := by decide +kernel
theorem dX12_troubles_1 : decode cX12_troubles 1 = .ok (.iconst 0, 1) := by decide +kernel
theorem dX12_troubles_2 : decode cX12_troubles 2 = .ok (.putfield 103, 3) := by decide +kernel
theorem dX12_troubles_5 : decode cX12_troubles 5 = .ok (.aload_n 0, 1) := by decide +kernel
theorem dX12_troubles_6 : decode cX12_troubles 6 = .ok (.iload_n 1, 1) := by decide +kernel
theorem dX12_troubles_7 : decode cX12_troubles 7 = .ok (.invokevirtual 339, 3) := by decide +kernel
theorem dX12_troubles_10 : decode cX12_troubles 10 = .ok (.ifCond .eq 27, 3) := by decide +kernel
theorem dX12_troubles_13 : decode cX12_troubles 13 = .ok (.aload_n 0, 1) := by decide +kernel
theorem dX12_troubles_14 : decode cX12_troubles 14 = .ok (.aload_n 0, 1) := by decide +kernel
theorem dX12_troubles_15 : decode cX12_troubles 15 = .ok (.getfield 55, 3) := by decide +kernel
theorem dX12_troubles_18 : decode cX12_troubles 18 = .ok (.iload_n 1, 1) := by decide +kernel
theorem dX12_troubles_19 : decode cX12_troubles 19 = .ok (.aload_n 0, 1) := by decide +kernel
theorem dX12_troubles_20 : decode cX12_troubles 20 = .ok (.iload_n 1, 1) := by decide +kernel
theorem dX12_troubles_21 : decode cX12_troubles 21 = .ok (.iconst 3, 1) := by decide +kernel
theorem dX12_troubles_22 : decode cX12_troubles 22 = .ok (.invokevirtual 305, 3) := by decide +kernel
theorem dX12_troubles_25 : decode cX12_troubles 25 = .ok (.aload_n 0, 1) := by decide +kernel
theorem dX12_troubles_26 : decode cX12_troubles 26 = .ok (.getfield 37, 3) := by decide +kernel
theorem dX12_troubles_29 : decode cX12_troubles 29 = .ok (.iconst 2, 1) := by decide +kernel
theorem dX12_troubles_30 : decode cX12_troubles 30 = .ok (.iaload, 1) := by decide +kernel
theorem dX12_troubles_31 : decode cX12_troubles 31 = .ok (.invokevirtual 342, 3) := by decide +kernel
theorem dX12_troubles_34 : decode cX12_troubles 34 = .ok (.goto 4, 3) := by decide +kernel
theorem dX12_troubles_37 : decode cX12_troubles 37 = .ok (.iconst (-1), 1) := by decide +kernel
theorem dX12_troubles_38 : decode cX12_troubles 38 = .ok (.ireturn, 1) := by decide +kernel
theorem dX12_keep_0 : decode cX12_keep 0 = .ok (.iconst 0, 1) := by decide +kernel
theorem dX12_keep_1 : decode cX12_keep 1 = .ok (.istore_n 2, 1) := by decide +kernel
theorem dX12_keep_2 : decode cX12_keep 2 = .ok (.iload_n 2, 1) := by decide +kernel
theorem dX12_keep_3 : decode cX12_keep 3 = .ok (.bipush 29, 2) := by decide +kernel
theorem dX12_keep_5 : decode cX12_keep 5 = .ok (.if_icmp .ge 26, 3) := by decide +kernel
theorem dX12_keep_8 : decode cX12_keep 8 = .ok (.aload_n 0, 1) := by decide +kernel
theorem dX12_keep_9 : decode cX12_keep 9 = .ok (.getfield 78, 3) := by decide +kernel
theorem dX12_keep_12 : decode cX12_keep 12 = .ok (.bipush 29, 2) := by decide +kernel
theorem dX12_keep_14 : decode cX12_keep 14 = .ok (.iload_n 1, 1) := by decide +kernel
theorem dX12_keep_15 : decode cX12_keep 15 = .ok (.imul, 1) := by decide +kernel
theorem dX12_keep_16 : decode cX12_keep 16 = .ok (.iload_n 2, 1) := by decide +kernel
theorem dX12_keep_17 : decode cX12_keep 17 = .ok (.iadd, 1) := by decide +kernel
theorem dX12_keep_18 : decode cX12_keep 18 = .ok (.aload_n 0, 1) := by decide +kernel
theorem dX12_keep_19 : decode cX12_keep 19 = .ok (.getfield 58, 3) := by decide +kernel
theorem dX12_keep_22 : decode cX12_keep 22 = .ok (.iload_n 2, 1) := by decide +kernel
theorem dX12_keep_23 : decode cX12_keep 23 = .ok (.iaload, 1) := by decide +kernel
theorem dX12_keep_24 : decode cX12_keep 24 = .ok (.iastore, 1) := by decide +kernel
theorem dX12_keep_25 : decode cX12_keep 25 = .ok (.iinc 2 1, 3) := by decide +kernel
theorem dX12_keep_28 : decode cX12_keep 28 = .ok (.goto (-26), 3) := by decide +kernel
theorem dX12_keep_31 : decode cX12_keep 31 = .ok (.return_, 1) := by decide +kernel
theorem dX12_again_0 : decode cX12_again 0 = .ok (.iconst 0, 1) := by decide +kernel
theorem dX12_again_1 : decode cX12_again 1 = .ok (.istore_n 2, 1) := by decide +kernel
theorem dX12_again_2 : decode cX12_again 2 = .ok (.iload_n 2, 1) := by decide +kernel
theorem dX12_again_3 : decode cX12_again 3 = .ok (.bipush 29, 2) := by decide +kernel
theorem dX12_again_5 : decode cX12_again 5 = .ok (.if_icmp .ge 26, 3) := by decide +kernel
theorem dX12_again_8 : decode cX12_again 8 = .ok (.aload_n 0, 1) := by decide +kernel
theorem dX12_again_9 : decode cX12_again 9 = .ok (.getfield 58, 3) := by decide +kernel
theorem dX12_again_12 : decode cX12_again 12 = .ok (.iload_n 2, 1) := by decide +kernel
theorem dX12_again_13 : decode cX12_again 13 = .ok (.aload_n 0, 1) := by decide +kernel
theorem dX12_again_14 : decode cX12_again 14 = .ok (.getfield 78, 3) := by decide +kernel
theorem dX12_again_17 : decode cX12_again 17 = .ok (.bipush 29, 2) := by decide +kernel
theorem dX12_again_19 : decode cX12_again 19 = .ok (.iload_n 1, 1) := by decide +kernel
theorem dX12_again_20 : decode cX12_again 20 = .ok (.imul, 1) := by decide +kernel
theorem dX12_again_21 : decode cX12_again 21 = .ok (.iload_n 2, 1) := by decide +kernel
theorem dX12_again_22 : decode cX12_again 22 = .ok (.iadd, 1) := by decide +kernel
theorem dX12_again_23 : decode cX12_again 23 = .ok (.iaload, 1) := by decide +kernel
theorem dX12_again_24 : decode cX12_again 24 = .ok (.iastore, 1) := by decide +kernel
theorem dX12_again_25 : decode cX12_again 25 = .ok (.iinc 2 1, 3) := by decide +kernel
theorem dX12_again_28 : decode cX12_again 28 = .ok (.goto (-26), 3) := by decide +kernel
theorem dX12_again_31 : decode cX12_again 31 = .ok (.return_, 1) := by decide +kernel
theorem dX12_goSees_0 : decode cX12_goSees 0 = .ok (.aload_n 0, 1) := by decide +kernel
theorem dX12_goSees_1 : decode cX12_goSees 1 = .ok (.aload_n 0, 1) := by decide +kernel
theorem dX12_goSees_2 : decode cX12_goSees 2 = .ok (.getfield 58, 3) := by decide +kernel
theorem dX12_goSees_5 : decode cX12_goSees 5 = .ok (.invokevirtual 346, 3) := by decide +kernel
theorem dX12_goSees_8 : decode cX12_goSees 8 = .ok (.aload_n 0, 1) := by decide +kernel
theorem dX12_goSees_9 : decode cX12_goSees 9 = .ok (.aload_n 0, 1) := by decide +kernel
theorem dX12_goSees_10 : decode cX12_goSees 10 = .ok (.getfield 55, 3) := by decide +kernel
theorem dX12_goSees_13 : decode cX12_goSees 13 = .ok (.invokevirtual 346, 3) := by decide +kernel
theorem dX12_goSees_16 : decode cX12_goSees 16 = .ok (.iconst (-1), 1) := by decide +kernel
theorem dX12_goSees_17 : decode cX12_goSees 17 = .ok (.ixor, 1) := by decide +kernel
theorem dX12_goSees_18 : decode cX12_goSees 18 = .ok (.iand, 1) := by decide +kernel
theorem dX12_goSees_19 : decode cX12_goSees 19 = .ok (.ifCond .ne 101, 3) := by decide +kernel
theorem dX12_goSees_22 : decode cX12_goSees 22 = .ok (.aload_n 0, 1) := by decide +kernel
theorem dX12_goSees_23 : decode cX12_goSees 23 = .ok (.getfield 58, 3) := by decide +kernel
theorem dX12_goSees_26 : decode cX12_goSees 26 = .ok (.bipush 24, 2) := by decide +kernel
theorem dX12_goSees_28 : decode cX12_goSees 28 = .ok (.iaload, 1) := by decide +kernel
theorem dX12_goSees_29 : decode cX12_goSees 29 = .ok (.aload_n 0, 1) := by decide +kernel
theorem dX12_goSees_30 : decode cX12_goSees 30 = .ok (.getfield 55, 3) := by decide +kernel
theorem dX12_goSees_33 : decode cX12_goSees 33 = .ok (.bipush 24, 2) := by decide +kernel
theorem dX12_goSees_35 : decode cX12_goSees 35 = .ok (.iaload, 1) := by decide +kernel
theorem dX12_goSees_36 : decode cX12_goSees 36 = .ok (.isub, 1) := by decide +kernel
theorem dX12_goSees_37 : decode cX12_goSees 37 = .ok (.istore 4, 2) := by decide +kernel
theorem dX12_goSees_39 : decode cX12_goSees 39 = .ok (.iload 4, 2) := by decide +kernel
theorem dX12_goSees_41 : decode cX12_goSees 41 = .ok (.aload_n 0, 1) := by decide +kernel
theorem dX12_goSees_42 : decode cX12_goSees 42 = .ok (.getfield 411, 3) := by decide +kernel
theorem dX12_goSees_45 : decode cX12_goSees 45 = .ok (.if_icmp .gt 36, 3) := by decide +kernel
theorem dX12_goSees_48 : decode cX12_goSees 48 = .ok (.iload 4, 2) := by decide +kernel
theorem dX12_goSees_50 : decode cX12_goSees 50 = .ok (.aload_n 0, 1) := by decide +kernel
theorem dX12_goSees_51 : decode cX12_goSees 51 = .ok (.getfield 411, 3) := by decide +kernel
theorem dX12_goSees_54 : decode cX12_goSees 54 = .ok (.if_icmp .ne 31, 3) := by decide +kernel
theorem dX12_goSees_57 : decode cX12_goSees 57 = .ok (.iload_n 1, 1) := by decide +kernel
theorem dX12_goSees_58 : decode cX12_goSees 58 = .ok (.aload_n 0, 1) := by decide +kernel
theorem dX12_goSees_59 : decode cX12_goSees 59 = .ok (.getfield 414, 3) := by decide +kernel
theorem dX12_goSees_62 : decode cX12_goSees 62 = .ok (.if_icmp .lt 19, 3) := by decide +kernel
theorem dX12_goSees_65 : decode cX12_goSees 65 = .ok (.iload_n 1, 1) := by decide +kernel
theorem dX12_goSees_66 : decode cX12_goSees 66 = .ok (.aload_n 0, 1) := by decide +kernel
theorem dX12_goSees_67 : decode cX12_goSees 67 = .ok (.getfield 414, 3) := by decide +kernel
theorem dX12_goSees_70 : decode cX12_goSees 70 = .ok (.if_icmp .ne 15, 3) := by decide +kernel
theorem dX12_goSees_73 : decode cX12_goSees 73 = .ok (.iload_n 3, 1) := by decide +kernel
theorem dX12_goSees_74 : decode cX12_goSees 74 = .ok (.aload_n 0, 1) := by decide +kernel
theorem dX12_goSees_75 : decode cX12_goSees 75 = .ok (.getfield 417, 3) := by decide +kernel
theorem dX12_goSees_78 : decode cX12_goSees 78 = .ok (.if_icmp .ge 7, 3) := by decide +kernel
theorem dX12_goSees_81 : decode cX12_goSees 81 = .ok (.iconst 1, 1) := by decide +kernel
theorem dX12_goSees_82 : decode cX12_goSees 82 = .ok (.goto 4, 3) := by decide +kernel
theorem dX12_goSees_85 : decode cX12_goSees 85 = .ok (.iconst 0, 1) := by decide +kernel
theorem dX12_goSees_86 : decode cX12_goSees 86 = .ok (.istore 5, 2) := by decide +kernel
theorem dX12_goSees_88 : decode cX12_goSees 88 = .ok (.iload 5, 2) := by decide +kernel
theorem dX12_goSees_90 : decode cX12_goSees 90 = .ok (.ifCond .eq 30, 3) := by decide +kernel
theorem dX12_goSees_93 : decode cX12_goSees 93 = .ok (.aload_n 0, 1) := by decide +kernel
theorem dX12_goSees_94 : decode cX12_goSees 94 = .ok (.iload 4, 2) := by decide +kernel
theorem dX12_goSees_96 : decode cX12_goSees 96 = .ok (.putfield 411, 3) := by decide +kernel
theorem dX12_goSees_99 : decode cX12_goSees 99 = .ok (.aload_n 0, 1) := by decide +kernel
theorem dX12_goSees_100 : decode cX12_goSees 100 = .ok (.iload_n 1, 1) := by decide +kernel
theorem dX12_goSees_101 : decode cX12_goSees 101 = .ok (.putfield 414, 3) := by decide +kernel
theorem dX12_goSees_104 : decode cX12_goSees 104 = .ok (.aload_n 0, 1) := by decide +kernel
theorem dX12_goSees_105 : decode cX12_goSees 105 = .ok (.iload_n 3, 1) := by decide +kernel
theorem dX12_goSees_106 : decode cX12_goSees 106 = .ok (.putfield 417, 3) := by decide +kernel
theorem dX12_goSees_109 : decode cX12_goSees 109 = .ok (.aload_n 0, 1) := by decide +kernel
theorem dX12_goSees_110 : decode cX12_goSees 110 = .ok (.aload_n 0, 1) := by decide +kernel
theorem dX12_goSees_111 : decode cX12_goSees 111 = .ok (.getfield 58, 3) := by decide +kernel
theorem dX12_goSees_114 : decode cX12_goSees 114 = .ok (.bipush 21, 2) := by decide +kernel
theorem dX12_goSees_116 : decode cX12_goSees 116 = .ok (.iaload, 1) := by decide +kernel
theorem dX12_goSees_117 : decode cX12_goSees 117 = .ok (.putfield 420, 3) := by decide +kernel
theorem dX12_goSees_120 : decode cX12_goSees 120 = .ok (.aload_n 0, 1) := by decide +kernel
theorem dX12_goSees_121 : decode cX12_goSees 121 = .ok (.iload_n 1, 1) := by decide +kernel
theorem dX12_goSees_122 : decode cX12_goSees 122 = .ok (.invokevirtual 423, 3) := by decide +kernel
theorem dX12_goSees_125 : decode cX12_goSees 125 = .ok (.iconst 0, 1) := by decide +kernel
theorem dX12_goSees_126 : decode cX12_goSees 126 = .ok (.istore 4, 2) := by decide +kernel
theorem dX12_goSees_128 : decode cX12_goSees 128 = .ok (.iload 4, 2) := by decide +kernel
theorem dX12_goSees_130 : decode cX12_goSees 130 = .ok (.aload_n 0, 1) := by decide +kernel
theorem dX12_goSees_131 : decode cX12_goSees 131 = .ok (.getfield 293, 3) := by decide +kernel
theorem dX12_goSees_134 : decode cX12_goSees 134 = .ok (.if_icmp .ge 86, 3) := by decide +kernel
theorem dX12_goSees_137 : decode cX12_goSees 137 = .ok (.iload_n 2, 1) := by decide +kernel
theorem dX12_goSees_138 : decode cX12_goSees 138 = .ok (.iload 4, 2) := by decide +kernel
theorem dX12_goSees_140 : decode cX12_goSees 140 = .ok (.invokestatic 236, 3) := by decide +kernel
theorem dX12_goSees_143 : decode cX12_goSees 143 = .ok (.ifCond .ne 71, 3) := by decide +kernel
theorem dX12_goSees_146 : decode cX12_goSees 146 = .ok (.aload_n 0, 1) := by decide +kernel
theorem dX12_goSees_147 : decode cX12_goSees 147 = .ok (.aload_n 0, 1) := by decide +kernel
theorem dX12_goSees_148 : decode cX12_goSees 148 = .ok (.getfield 58, 3) := by decide +kernel
theorem dX12_goSees_151 : decode cX12_goSees 151 = .ok (.iload 4, 2) := by decide +kernel
theorem dX12_goSees_153 : decode cX12_goSees 153 = .ok (.invokevirtual 353, 3) := by decide +kernel
theorem dX12_goSees_156 : decode cX12_goSees 156 = .ok (.ifCond .ne 6, 3) := by decide +kernel
theorem dX12_goSees_159 : decode cX12_goSees 159 = .ok (.goto 55, 3) := by decide +kernel
theorem dX12_goSees_162 : decode cX12_goSees 162 = .ok (.aload_n 0, 1) := by decide +kernel
theorem dX12_goSees_163 : decode cX12_goSees 163 = .ok (.aload_n 0, 1) := by decide +kernel
theorem dX12_goSees_164 : decode cX12_goSees 164 = .ok (.getfield 58, 3) := by decide +kernel
theorem dX12_goSees_167 : decode cX12_goSees 167 = .ok (.iload 4, 2) := by decide +kernel
theorem dX12_goSees_169 : decode cX12_goSees 169 = .ok (.aload_n 0, 1) := by decide +kernel
theorem dX12_goSees_170 : decode cX12_goSees 170 = .ok (.getfield 37, 3) := by decide +kernel
theorem dX12_goSees_173 : decode cX12_goSees 173 = .ok (.iconst 2, 1) := by decide +kernel
theorem dX12_goSees_174 : decode cX12_goSees 174 = .ok (.iaload, 1) := by decide +kernel
theorem dX12_goSees_175 : decode cX12_goSees 175 = .ok (.invokevirtual 360, 3) := by decide +kernel
theorem dX12_goSees_178 : decode cX12_goSees 178 = .ok (.istore 5, 2) := by decide +kernel
theorem dX12_goSees_180 : decode cX12_goSees 180 = .ok (.aload_n 0, 1) := by decide +kernel
theorem dX12_goSees_181 : decode cX12_goSees 181 = .ok (.iload_n 1, 1) := by decide +kernel
theorem dX12_goSees_182 : decode cX12_goSees 182 = .ok (.iconst 1, 1) := by decide +kernel
theorem dX12_goSees_183 : decode cX12_goSees 183 = .ok (.iadd, 1) := by decide +kernel
theorem dX12_goSees_184 : decode cX12_goSees 184 = .ok (.iload_n 2, 1) := by decide +kernel
theorem dX12_goSees_185 : decode cX12_goSees 185 = .ok (.iconst 1, 1) := by decide +kernel
theorem dX12_goSees_186 : decode cX12_goSees 186 = .ok (.iload 4, 2) := by decide +kernel
theorem dX12_goSees_188 : decode cX12_goSees 188 = .ok (.ishl, 1) := by decide +kernel
theorem dX12_goSees_189 : decode cX12_goSees 189 = .ok (.ior, 1) := by decide +kernel
theorem dX12_goSees_190 : decode cX12_goSees 190 = .ok (.iload_n 1, 1) := by decide +kernel
theorem dX12_goSees_191 : decode cX12_goSees 191 = .ok (.ifCond .ne 8, 3) := by decide +kernel
theorem dX12_goSees_194 : decode cX12_goSees 194 = .ok (.iload 4, 2) := by decide +kernel
theorem dX12_goSees_196 : decode cX12_goSees 196 = .ok (.goto 10, 3) := by decide +kernel
theorem dX12_goSees_199 : decode cX12_goSees 199 = .ok (.bipush 10, 2) := by decide +kernel
theorem dX12_goSees_201 : decode cX12_goSees 201 = .ok (.iload_n 3, 1) := by decide +kernel
theorem dX12_goSees_202 : decode cX12_goSees 202 = .ok (.imul, 1) := by decide +kernel
theorem dX12_goSees_203 : decode cX12_goSees 203 = .ok (.iload 4, 2) := by decide +kernel
theorem dX12_goSees_205 : decode cX12_goSees 205 = .ok (.iadd, 1) := by decide +kernel
theorem dX12_goSees_206 : decode cX12_goSees 206 = .ok (.invokevirtual 426, 3) := by decide +kernel
theorem dX12_goSees_209 : decode cX12_goSees 209 = .ok (.aload_n 0, 1) := by decide +kernel
theorem dX12_goSees_210 : decode cX12_goSees 210 = .ok (.iload_n 1, 1) := by decide +kernel
theorem dX12_goSees_211 : decode cX12_goSees 211 = .ok (.invokevirtual 430, 3) := by decide +kernel
theorem dX12_goSees_214 : decode cX12_goSees 214 = .ok (.iinc 4 1, 3) := by decide +kernel
theorem dX12_goSees_217 : decode cX12_goSees 217 = .ok (.goto (-89), 3) := by decide +kernel
theorem dX12_goSees_220 : decode cX12_goSees 220 = .ok (.return_, 1) := by decide +kernel
theorem dX12_sees_0 : decode cX12_sees 0 = .ok (.aload_n 0, 1) := by decide +kernel
theorem dX12_sees_1 : decode cX12_sees 1 = .ok (.iconst 0, 1) := by decide +kernel
theorem dX12_sees_2 : decode cX12_sees 2 = .ok (.putfield 103, 3) := by decide +kernel
theorem dX12_sees_5 : decode cX12_sees 5 = .ok (.aload_n 0, 1) := by decide +kernel
theorem dX12_sees_6 : decode cX12_sees 6 = .ok (.getfield 293, 3) := by decide +kernel
theorem dX12_sees_9 : decode cX12_sees 9 = .ok (.ifCond .eq 15, 3) := by decide +kernel
theorem dX12_sees_12 : decode cX12_sees 12 = .ok (.iload_n 1, 1) := by decide +kernel
theorem dX12_sees_13 : decode cX12_sees 13 = .ok (.i2l, 1) := by decide +kernel
theorem dX12_sees_14 : decode cX12_sees 14 = .ok (.lconst 0, 1) := by decide +kernel
theorem dX12_sees_15 : decode cX12_sees 15 = .ok (.ldc2_w 274, 3) := by decide +kernel
theorem dX12_sees_18 : decode cX12_sees 18 = .ok (.invokestatic 224, 3) := by decide +kernel
theorem dX12_sees_21 : decode cX12_sees 21 = .ok (.ifCond .ne 5, 3) := by decide +kernel
theorem dX12_sees_24 : decode cX12_sees 24 = .ok (.iconst (-1), 1) := by decide +kernel
theorem dX12_sees_25 : decode cX12_sees 25 = .ok (.ireturn, 1) := by decide +kernel
theorem dX12_sees_26 : decode cX12_sees 26 = .ok (.aload_n 0, 1) := by decide +kernel
theorem dX12_sees_27 : decode cX12_sees 27 = .ok (.getfield 55, 3) := by decide +kernel
theorem dX12_sees_30 : decode cX12_sees 30 = .ok (.aload_n 0, 1) := by decide +kernel
theorem dX12_sees_31 : decode cX12_sees 31 = .ok (.getfield 58, 3) := by decide +kernel
theorem dX12_sees_34 : decode cX12_sees 34 = .ok (.invokestatic 401, 3) := by decide +kernel
theorem dX12_sees_37 : decode cX12_sees 37 = .ok (.aload_n 0, 1) := by decide +kernel
theorem dX12_sees_38 : decode cX12_sees 38 = .ok (.iconst (-1), 1) := by decide +kernel
theorem dX12_sees_39 : decode cX12_sees 39 = .ok (.putfield 417, 3) := by decide +kernel
theorem dX12_sees_42 : decode cX12_sees 42 = .ok (.aload_n 0, 1) := by decide +kernel
theorem dX12_sees_43 : decode cX12_sees 43 = .ok (.iconst (-1), 1) := by decide +kernel
theorem dX12_sees_44 : decode cX12_sees 44 = .ok (.putfield 411, 3) := by decide +kernel
theorem dX12_sees_47 : decode cX12_sees 47 = .ok (.aload_n 0, 1) := by decide +kernel
theorem dX12_sees_48 : decode cX12_sees 48 = .ok (.iconst 0, 1) := by decide +kernel
theorem dX12_sees_49 : decode cX12_sees 49 = .ok (.putfield 414, 3) := by decide +kernel
theorem dX12_sees_52 : decode cX12_sees 52 = .ok (.aload_n 0, 1) := by decide +kernel
theorem dX12_sees_53 : decode cX12_sees 53 = .ok (.iconst 0, 1) := by decide +kernel
theorem dX12_sees_54 : decode cX12_sees 54 = .ok (.iconst 0, 1) := by decide +kernel
theorem dX12_sees_55 : decode cX12_sees 55 = .ok (.iconst (-1), 1) := by decide +kernel
theorem dX12_sees_56 : decode cX12_sees 56 = .ok (.invokevirtual 426, 3) := by decide +kernel
theorem dX12_sees_59 : decode cX12_sees 59 = .ok (.iload_n 1, 1) := by decide +kernel
theorem dX12_sees_60 : decode cX12_sees 60 = .ok (.ifCond .ne 10, 3) := by decide +kernel
theorem dX12_sees_63 : decode cX12_sees 63 = .ok (.aload_n 0, 1) := by decide +kernel
theorem dX12_sees_64 : decode cX12_sees 64 = .ok (.getfield 417, 3) := by decide +kernel
theorem dX12_sees_67 : decode cX12_sees 67 = .ok (.goto 19, 3) := by decide +kernel
theorem dX12_sees_70 : decode cX12_sees 70 = .ok (.iload_n 1, 1) := by decide +kernel
theorem dX12_sees_71 : decode cX12_sees 71 = .ok (.iconst 1, 1) := by decide +kernel
theorem dX12_sees_72 : decode cX12_sees 72 = .ok (.if_icmp .ne 10, 3) := by decide +kernel
theorem dX12_sees_75 : decode cX12_sees 75 = .ok (.aload_n 0, 1) := by decide +kernel
theorem dX12_sees_76 : decode cX12_sees 76 = .ok (.getfield 411, 3) := by decide +kernel
theorem dX12_sees_79 : decode cX12_sees 79 = .ok (.goto 7, 3) := by decide +kernel
theorem dX12_sees_82 : decode cX12_sees 82 = .ok (.aload_n 0, 1) := by decide +kernel
theorem dX12_sees_83 : decode cX12_sees 83 = .ok (.getfield 420, 3) := by decide +kernel
theorem dX12_sees_86 : decode cX12_sees 86 = .ok (.ireturn, 1) := by decide +kernel
theorem dX12_goLeast_0 : decode cX12_goLeast 0 = .ok (.iload_n 2, 1) := by decide +kernel
theorem dX12_goLeast_1 : decode cX12_goLeast 1 = .ok (.ifCond .ne 32, 3) := by decide +kernel
theorem dX12_goLeast_4 : decode cX12_goLeast 4 = .ok (.aload_n 0, 1) := by decide +kernel
theorem dX12_goLeast_5 : decode cX12_goLeast 5 = .ok (.getfield 411, 3) := by decide +kernel
theorem dX12_goLeast_8 : decode cX12_goLeast 8 = .ok (.iconst (-1), 1) := by decide +kernel
theorem dX12_goLeast_9 : decode cX12_goLeast 9 = .ok (.if_icmp .eq 12, 3) := by decide +kernel
theorem dX12_goLeast_12 : decode cX12_goLeast 12 = .ok (.iload_n 3, 1) := by decide +kernel
theorem dX12_goLeast_13 : decode cX12_goLeast 13 = .ok (.aload_n 0, 1) := by decide +kernel
theorem dX12_goLeast_14 : decode cX12_goLeast 14 = .ok (.getfield 411, 3) := by decide +kernel
theorem dX12_goLeast_17 : decode cX12_goLeast 17 = .ok (.if_icmp .lt 4, 3) := by decide +kernel
theorem dX12_goLeast_20 : decode cX12_goLeast 20 = .ok (.return_, 1) := by decide +kernel
theorem dX12_goLeast_21 : decode cX12_goLeast 21 = .ok (.aload_n 0, 1) := by decide +kernel
theorem dX12_goLeast_22 : decode cX12_goLeast 22 = .ok (.iload_n 3, 1) := by decide +kernel
theorem dX12_goLeast_23 : decode cX12_goLeast 23 = .ok (.putfield 411, 3) := by decide +kernel
theorem dX12_goLeast_26 : decode cX12_goLeast 26 = .ok (.aload_n 0, 1) := by decide +kernel
theorem dX12_goLeast_27 : decode cX12_goLeast 27 = .ok (.iload 4, 2) := by decide +kernel
theorem dX12_goLeast_29 : decode cX12_goLeast 29 = .ok (.putfield 417, 3) := by decide +kernel
theorem dX12_goLeast_32 : decode cX12_goLeast 32 = .ok (.return_, 1) := by decide +kernel
theorem dX12_goLeast_33 : decode cX12_goLeast 33 = .ok (.aload_n 0, 1) := by decide +kernel
theorem dX12_goLeast_34 : decode cX12_goLeast 34 = .ok (.iload_n 1, 1) := by decide +kernel
theorem dX12_goLeast_35 : decode cX12_goLeast 35 = .ok (.invokevirtual 423, 3) := by decide +kernel
theorem dX12_goLeast_38 : decode cX12_goLeast 38 = .ok (.iconst 0, 1) := by decide +kernel
theorem dX12_goLeast_39 : decode cX12_goLeast 39 = .ok (.istore 5, 2) := by decide +kernel
theorem dX12_goLeast_41 : decode cX12_goLeast 41 = .ok (.iload 5, 2) := by decide +kernel
theorem dX12_goLeast_43 : decode cX12_goLeast 43 = .ok (.aload_n 0, 1) := by decide +kernel
theorem dX12_goLeast_44 : decode cX12_goLeast 44 = .ok (.getfield 293, 3) := by decide +kernel
theorem dX12_goLeast_47 : decode cX12_goLeast 47 = .ok (.if_icmp .ge 84, 3) := by decide +kernel
theorem dX12_goLeast_50 : decode cX12_goLeast 50 = .ok (.iload_n 2, 1) := by decide +kernel
theorem dX12_goLeast_51 : decode cX12_goLeast 51 = .ok (.iload 5, 2) := by decide +kernel
theorem dX12_goLeast_53 : decode cX12_goLeast 53 = .ok (.invokestatic 236, 3) := by decide +kernel
theorem dX12_goLeast_56 : decode cX12_goLeast 56 = .ok (.ifCond .eq 69, 3) := by decide +kernel
theorem dX12_goLeast_59 : decode cX12_goLeast 59 = .ok (.aload_n 0, 1) := by decide +kernel
theorem dX12_goLeast_60 : decode cX12_goLeast 60 = .ok (.aload_n 0, 1) := by decide +kernel
theorem dX12_goLeast_61 : decode cX12_goLeast 61 = .ok (.getfield 58, 3) := by decide +kernel
