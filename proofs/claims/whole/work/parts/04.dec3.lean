theorem dX12_goLeast_64 : decode cX12_goLeast 64 = .ok (.iload 5, 2) := by decide +kernel
theorem dX12_goLeast_66 : decode cX12_goLeast 66 = .ok (.invokevirtual 353, 3) := by decide +kernel
theorem dX12_goLeast_69 : decode cX12_goLeast 69 = .ok (.ifCond .ne 6, 3) := by decide +kernel
theorem dX12_goLeast_72 : decode cX12_goLeast 72 = .ok (.goto 53, 3) := by decide +kernel
theorem dX12_goLeast_75 : decode cX12_goLeast 75 = .ok (.aload_n 0, 1) := by decide +kernel
theorem dX12_goLeast_76 : decode cX12_goLeast 76 = .ok (.aload_n 0, 1) := by decide +kernel
theorem dX12_goLeast_77 : decode cX12_goLeast 77 = .ok (.getfield 58, 3) := by decide +kernel
theorem dX12_goLeast_80 : decode cX12_goLeast 80 = .ok (.iload 5, 2) := by decide +kernel
theorem dX12_goLeast_82 : decode cX12_goLeast 82 = .ok (.aload_n 0, 1) := by decide +kernel
theorem dX12_goLeast_83 : decode cX12_goLeast 83 = .ok (.getfield 37, 3) := by decide +kernel
theorem dX12_goLeast_86 : decode cX12_goLeast 86 = .ok (.iconst 2, 1) := by decide +kernel
theorem dX12_goLeast_87 : decode cX12_goLeast 87 = .ok (.iaload, 1) := by decide +kernel
theorem dX12_goLeast_88 : decode cX12_goLeast 88 = .ok (.invokevirtual 360, 3) := by decide +kernel
theorem dX12_goLeast_91 : decode cX12_goLeast 91 = .ok (.istore 6, 2) := by decide +kernel
theorem dX12_goLeast_93 : decode cX12_goLeast 93 = .ok (.aload_n 0, 1) := by decide +kernel
theorem dX12_goLeast_94 : decode cX12_goLeast 94 = .ok (.iload_n 1, 1) := by decide +kernel
theorem dX12_goLeast_95 : decode cX12_goLeast 95 = .ok (.iconst 1, 1) := by decide +kernel
theorem dX12_goLeast_96 : decode cX12_goLeast 96 = .ok (.iadd, 1) := by decide +kernel
theorem dX12_goLeast_97 : decode cX12_goLeast 97 = .ok (.iload_n 2, 1) := by decide +kernel
theorem dX12_goLeast_98 : decode cX12_goLeast 98 = .ok (.iconst 1, 1) := by decide +kernel
theorem dX12_goLeast_99 : decode cX12_goLeast 99 = .ok (.iload 5, 2) := by decide +kernel
theorem dX12_goLeast_101 : decode cX12_goLeast 101 = .ok (.ishl, 1) := by decide +kernel
theorem dX12_goLeast_102 : decode cX12_goLeast 102 = .ok (.iconst (-1), 1) := by decide +kernel
theorem dX12_goLeast_103 : decode cX12_goLeast 103 = .ok (.ixor, 1) := by decide +kernel
theorem dX12_goLeast_104 : decode cX12_goLeast 104 = .ok (.iand, 1) := by decide +kernel
theorem dX12_goLeast_105 : decode cX12_goLeast 105 = .ok (.iload_n 3, 1) := by decide +kernel
theorem dX12_goLeast_106 : decode cX12_goLeast 106 = .ok (.iload 6, 2) := by decide +kernel
theorem dX12_goLeast_108 : decode cX12_goLeast 108 = .ok (.iadd, 1) := by decide +kernel
theorem dX12_goLeast_109 : decode cX12_goLeast 109 = .ok (.bipush 10, 2) := by decide +kernel
theorem dX12_goLeast_111 : decode cX12_goLeast 111 = .ok (.iload 4, 2) := by decide +kernel
theorem dX12_goLeast_113 : decode cX12_goLeast 113 = .ok (.imul, 1) := by decide +kernel
theorem dX12_goLeast_114 : decode cX12_goLeast 114 = .ok (.iload 5, 2) := by decide +kernel
theorem dX12_goLeast_116 : decode cX12_goLeast 116 = .ok (.iadd, 1) := by decide +kernel
theorem dX12_goLeast_117 : decode cX12_goLeast 117 = .ok (.invokevirtual 433, 3) := by decide +kernel
theorem dX12_goLeast_120 : decode cX12_goLeast 120 = .ok (.aload_n 0, 1) := by decide +kernel
theorem dX12_goLeast_121 : decode cX12_goLeast 121 = .ok (.iload_n 1, 1) := by decide +kernel
theorem dX12_goLeast_122 : decode cX12_goLeast 122 = .ok (.invokevirtual 430, 3) := by decide +kernel
theorem dX12_goLeast_125 : decode cX12_goLeast 125 = .ok (.iinc 5 1, 3) := by decide +kernel
theorem dX12_goLeast_128 : decode cX12_goLeast 128 = .ok (.goto (-87), 3) := by decide +kernel
theorem dX12_goLeast_131 : decode cX12_goLeast 131 = .ok (.return_, 1) := by decide +kernel
theorem dX12_isSet_0 : decode cX12_isSet 0 = .ok (.aload_n 0, 1) := by decide +kernel
theorem dX12_isSet_1 : decode cX12_isSet 1 = .ok (.getfield 293, 3) := by decide +kernel
theorem dX12_isSet_4 : decode cX12_isSet 4 = .ok (.ifCond .le 25, 3) := by decide +kernel
theorem dX12_isSet_7 : decode cX12_isSet 7 = .ok (.iload_n 1, 1) := by decide +kernel
theorem dX12_isSet_8 : decode cX12_isSet 8 = .ok (.i2l, 1) := by decide +kernel
theorem dX12_isSet_9 : decode cX12_isSet 9 = .ok (.lconst 1, 1) := by decide +kernel
theorem dX12_isSet_10 : decode cX12_isSet 10 = .ok (.iconst 1, 1) := by decide +kernel
theorem dX12_isSet_11 : decode cX12_isSet 11 = .ok (.aload_n 0, 1) := by decide +kernel
theorem dX12_isSet_12 : decode cX12_isSet 12 = .ok (.getfield 293, 3) := by decide +kernel
theorem dX12_isSet_15 : decode cX12_isSet 15 = .ok (.ishl, 1) := by decide +kernel
theorem dX12_isSet_16 : decode cX12_isSet 16 = .ok (.iconst 1, 1) := by decide +kernel
theorem dX12_isSet_17 : decode cX12_isSet 17 = .ok (.isub, 1) := by decide +kernel
theorem dX12_isSet_18 : decode cX12_isSet 18 = .ok (.i2l, 1) := by decide +kernel
theorem dX12_isSet_19 : decode cX12_isSet 19 = .ok (.invokestatic 224, 3) := by decide +kernel
theorem dX12_isSet_22 : decode cX12_isSet 22 = .ok (.ifCond .eq 7, 3) := by decide +kernel
theorem dX12_isSet_25 : decode cX12_isSet 25 = .ok (.iconst 1, 1) := by decide +kernel
theorem dX12_isSet_26 : decode cX12_isSet 26 = .ok (.goto 4, 3) := by decide +kernel
theorem dX12_isSet_29 : decode cX12_isSet 29 = .ok (.iconst 0, 1) := by decide +kernel
theorem dX12_isSet_30 : decode cX12_isSet 30 = .ok (.ireturn, 1) := by decide +kernel
theorem dX12_least_0 : decode cX12_least 0 = .ok (.aload_n 0, 1) := by decide +kernel
theorem dX12_least_1 : decode cX12_least 1 = .ok (.iconst 0, 1) := by decide +kernel
theorem dX12_least_2 : decode cX12_least 2 = .ok (.putfield 103, 3) := by decide +kernel
theorem dX12_least_5 : decode cX12_least 5 = .ok (.aload_n 0, 1) := by decide +kernel
theorem dX12_least_6 : decode cX12_least 6 = .ok (.iload_n 1, 1) := by decide +kernel
theorem dX12_least_7 : decode cX12_least 7 = .ok (.invokevirtual 437, 3) := by decide +kernel
theorem dX12_least_10 : decode cX12_least 10 = .ok (.ifCond .eq 13, 3) := by decide +kernel
theorem dX12_least_13 : decode cX12_least 13 = .ok (.iload_n 2, 1) := by decide +kernel
theorem dX12_least_14 : decode cX12_least 14 = .ok (.i2l, 1) := by decide +kernel
theorem dX12_least_15 : decode cX12_least 15 = .ok (.lconst 0, 1) := by decide +kernel
theorem dX12_least_16 : decode cX12_least 16 = .ok (.lconst 1, 1) := by decide +kernel
theorem dX12_least_17 : decode cX12_least 17 = .ok (.invokestatic 224, 3) := by decide +kernel
theorem dX12_least_20 : decode cX12_least 20 = .ok (.ifCond .ne 5, 3) := by decide +kernel
theorem dX12_least_23 : decode cX12_least 23 = .ok (.iconst (-1), 1) := by decide +kernel
theorem dX12_least_24 : decode cX12_least 24 = .ok (.ireturn, 1) := by decide +kernel
theorem dX12_least_25 : decode cX12_least 25 = .ok (.aload_n 0, 1) := by decide +kernel
theorem dX12_least_26 : decode cX12_least 26 = .ok (.getfield 55, 3) := by decide +kernel
theorem dX12_least_29 : decode cX12_least 29 = .ok (.aload_n 0, 1) := by decide +kernel
theorem dX12_least_30 : decode cX12_least 30 = .ok (.getfield 58, 3) := by decide +kernel
theorem dX12_least_33 : decode cX12_least 33 = .ok (.invokestatic 401, 3) := by decide +kernel
theorem dX12_least_36 : decode cX12_least 36 = .ok (.aload_n 0, 1) := by decide +kernel
theorem dX12_least_37 : decode cX12_least 37 = .ok (.iconst (-1), 1) := by decide +kernel
theorem dX12_least_38 : decode cX12_least 38 = .ok (.putfield 417, 3) := by decide +kernel
theorem dX12_least_41 : decode cX12_least 41 = .ok (.aload_n 0, 1) := by decide +kernel
theorem dX12_least_42 : decode cX12_least 42 = .ok (.iconst (-1), 1) := by decide +kernel
theorem dX12_least_43 : decode cX12_least 43 = .ok (.putfield 411, 3) := by decide +kernel
theorem dX12_least_46 : decode cX12_least 46 = .ok (.aload_n 0, 1) := by decide +kernel
theorem dX12_least_47 : decode cX12_least 47 = .ok (.iconst 0, 1) := by decide +kernel
theorem dX12_least_48 : decode cX12_least 48 = .ok (.iload_n 1, 1) := by decide +kernel
theorem dX12_least_49 : decode cX12_least 49 = .ok (.iconst 0, 1) := by decide +kernel
theorem dX12_least_50 : decode cX12_least 50 = .ok (.iconst 0, 1) := by decide +kernel
theorem dX12_least_51 : decode cX12_least 51 = .ok (.invokevirtual 433, 3) := by decide +kernel
theorem dX12_least_54 : decode cX12_least 54 = .ok (.iload_n 2, 1) := by decide +kernel
theorem dX12_least_55 : decode cX12_least 55 = .ok (.ifCond .ne 10, 3) := by decide +kernel
theorem dX12_least_58 : decode cX12_least 58 = .ok (.aload_n 0, 1) := by decide +kernel
theorem dX12_least_59 : decode cX12_least 59 = .ok (.getfield 417, 3) := by decide +kernel
theorem dX12_least_62 : decode cX12_least 62 = .ok (.goto 7, 3) := by decide +kernel
theorem dX12_least_65 : decode cX12_least 65 = .ok (.aload_n 0, 1) := by decide +kernel
theorem dX12_least_66 : decode cX12_least 66 = .ok (.getfield 411, 3) := by decide +kernel
theorem dX12_least_69 : decode cX12_least 69 = .ok (.ireturn, 1) := by decide +kernel
theorem dX12_manners_0 : decode cX12_manners 0 = .ok (.aload_n 0, 1) := by decide +kernel
theorem dX12_manners_1 : decode cX12_manners 1 = .ok (.iconst 0, 1) := by decide +kernel
theorem dX12_manners_2 : decode cX12_manners 2 = .ok (.putfield 103, 3) := by decide +kernel
theorem dX12_manners_5 : decode cX12_manners 5 = .ok (.aload_n 0, 1) := by decide +kernel
theorem dX12_manners_6 : decode cX12_manners 6 = .ok (.iload_n 1, 1) := by decide +kernel
theorem dX12_manners_7 : decode cX12_manners 7 = .ok (.invokevirtual 437, 3) := by decide +kernel
theorem dX12_manners_10 : decode cX12_manners 10 = .ok (.ifCond .eq 11, 3) := by decide +kernel
theorem dX12_manners_13 : decode cX12_manners 13 = .ok (.aload_n 0, 1) := by decide +kernel
theorem dX12_manners_14 : decode cX12_manners 14 = .ok (.getfield 61, 3) := by decide +kernel
theorem dX12_manners_17 : decode cX12_manners 17 = .ok (.iconst (-1), 1) := by decide +kernel
theorem dX12_manners_18 : decode cX12_manners 18 = .ok (.if_icmp .eq 5, 3) := by decide +kernel
theorem dX12_manners_21 : decode cX12_manners 21 = .ok (.iconst (-1), 1) := by decide +kernel
theorem dX12_manners_22 : decode cX12_manners 22 = .ok (.ireturn, 1) := by decide +kernel
theorem dX12_manners_23 : decode cX12_manners 23 = .ok (.iconst 0, 1) := by decide +kernel
theorem dX12_manners_24 : decode cX12_manners 24 = .ok (.istore_n 2, 1) := by decide +kernel
theorem dX12_manners_25 : decode cX12_manners 25 = .ok (.aload_n 0, 1) := by decide +kernel
theorem dX12_manners_26 : decode cX12_manners 26 = .ok (.getfield 37, 3) := by decide +kernel
theorem dX12_manners_29 : decode cX12_manners 29 = .ok (.iconst 2, 1) := by decide +kernel
theorem dX12_manners_30 : decode cX12_manners 30 = .ok (.iaload, 1) := by decide +kernel
theorem dX12_manners_31 : decode cX12_manners 31 = .ok (.iload_n 2, 1) := by decide +kernel
theorem dX12_manners_32 : decode cX12_manners 32 = .ok (.iadd, 1) := by decide +kernel
theorem dX12_manners_33 : decode cX12_manners 33 = .ok (.bipush 9, 2) := by decide +kernel
theorem dX12_manners_35 : decode cX12_manners 35 = .ok (.if_icmp .gt 91, 3) := by decide +kernel
theorem dX12_manners_38 : decode cX12_manners 38 = .ok (.aload_n 0, 1) := by decide +kernel
theorem dX12_manners_39 : decode cX12_manners 39 = .ok (.getfield 55, 3) := by decide +kernel
theorem dX12_manners_42 : decode cX12_manners 42 = .ok (.aload_n 0, 1) := by decide +kernel
theorem dX12_manners_43 : decode cX12_manners 43 = .ok (.getfield 58, 3) := by decide +kernel
theorem dX12_manners_46 : decode cX12_manners 46 = .ok (.invokestatic 401, 3) := by decide +kernel
theorem dX12_manners_49 : decode cX12_manners 49 = .ok (.iconst 0, 1) := by decide +kernel
theorem dX12_manners_50 : decode cX12_manners 50 = .ok (.istore_n 3, 1) := by decide +kernel
theorem dX12_manners_51 : decode cX12_manners 51 = .ok (.iload_n 3, 1) := by decide +kernel
theorem dX12_manners_52 : decode cX12_manners 52 = .ok (.aload_n 0, 1) := by decide +kernel
theorem dX12_manners_53 : decode cX12_manners 53 = .ok (.getfield 293, 3) := by decide +kernel
theorem dX12_manners_56 : decode cX12_manners 56 = .ok (.if_icmp .ge 51, 3) := by decide +kernel
theorem dX12_manners_59 : decode cX12_manners 59 = .ok (.iload_n 1, 1) := by decide +kernel
theorem dX12_manners_60 : decode cX12_manners 60 = .ok (.iload_n 3, 1) := by decide +kernel
theorem dX12_manners_61 : decode cX12_manners 61 = .ok (.invokestatic 236, 3) := by decide +kernel
theorem dX12_manners_64 : decode cX12_manners 64 = .ok (.ifCond .eq 37, 3) := by decide +kernel
theorem dX12_manners_67 : decode cX12_manners 67 = .ok (.aload_n 0, 1) := by decide +kernel
theorem dX12_manners_68 : decode cX12_manners 68 = .ok (.aload_n 0, 1) := by decide +kernel
theorem dX12_manners_69 : decode cX12_manners 69 = .ok (.getfield 58, 3) := by decide +kernel
theorem dX12_manners_72 : decode cX12_manners 72 = .ok (.iload_n 3, 1) := by decide +kernel
theorem dX12_manners_73 : decode cX12_manners 73 = .ok (.invokevirtual 353, 3) := by decide +kernel
theorem dX12_manners_76 : decode cX12_manners 76 = .ok (.ifCond .ne 6, 3) := by decide +kernel
theorem dX12_manners_79 : decode cX12_manners 79 = .ok (.goto 22, 3) := by decide +kernel
theorem dX12_manners_82 : decode cX12_manners 82 = .ok (.aload_n 0, 1) := by decide +kernel
theorem dX12_manners_83 : decode cX12_manners 83 = .ok (.aload_n 0, 1) := by decide +kernel
theorem dX12_manners_84 : decode cX12_manners 84 = .ok (.getfield 58, 3) := by decide +kernel
theorem dX12_manners_87 : decode cX12_manners 87 = .ok (.iload_n 3, 1) := by decide +kernel
theorem dX12_manners_88 : decode cX12_manners 88 = .ok (.aload_n 0, 1) := by decide +kernel
theorem dX12_manners_89 : decode cX12_manners 89 = .ok (.getfield 37, 3) := by decide +kernel
theorem dX12_manners_92 : decode cX12_manners 92 = .ok (.iconst 2, 1) := by decide +kernel
theorem dX12_manners_93 : decode cX12_manners 93 = .ok (.iaload, 1) := by decide +kernel
theorem dX12_manners_94 : decode cX12_manners 94 = .ok (.iload_n 2, 1) := by decide +kernel
theorem dX12_manners_95 : decode cX12_manners 95 = .ok (.iadd, 1) := by decide +kernel
theorem dX12_manners_96 : decode cX12_manners 96 = .ok (.invokevirtual 360, 3) := by decide +kernel
theorem dX12_manners_99 : decode cX12_manners 99 = .ok (.istore 4, 2) := by decide +kernel
theorem dX12_manners_101 : decode cX12_manners 101 = .ok (.iinc 3 1, 3) := by decide +kernel
theorem dX12_manners_104 : decode cX12_manners 104 = .ok (.goto (-53), 3) := by decide +kernel
theorem dX12_manners_107 : decode cX12_manners 107 = .ok (.aload_n 0, 1) := by decide +kernel
theorem dX12_manners_108 : decode cX12_manners 108 = .ok (.aload_n 0, 1) := by decide +kernel
theorem dX12_manners_109 : decode cX12_manners 109 = .ok (.getfield 58, 3) := by decide +kernel
theorem dX12_manners_112 : decode cX12_manners 112 = .ok (.invokevirtual 346, 3) := by decide +kernel
theorem dX12_manners_115 : decode cX12_manners 115 = .ok (.ifCond .ne 5, 3) := by decide +kernel
theorem dX12_manners_118 : decode cX12_manners 118 = .ok (.iload_n 2, 1) := by decide +kernel
theorem dX12_manners_119 : decode cX12_manners 119 = .ok (.ireturn, 1) := by decide +kernel
theorem dX12_manners_120 : decode cX12_manners 120 = .ok (.iinc 2 1, 3) := by decide +kernel
theorem dX12_manners_123 : decode cX12_manners 123 = .ok (.goto (-98), 3) := by decide +kernel
theorem dX12_manners_126 : decode cX12_manners 126 = .ok (.iconst (-1), 1) := by decide +kernel
theorem dX12_manners_127 : decode cX12_manners 127 = .ok (.ireturn, 1) := by decide +kernel
theorem dX12_noted_0 : decode cX12_noted 0 = .ok (.aload_n 0, 1) := by decide +kernel
theorem dX12_noted_1 : decode cX12_noted 1 = .ok (.iconst 0, 1) := by decide +kernel
theorem dX12_noted_2 : decode cX12_noted 2 = .ok (.putfield 103, 3) := by decide +kernel
theorem dX12_noted_5 : decode cX12_noted 5 = .ok (.aload_n 0, 1) := by decide +kernel
theorem dX12_noted_6 : decode cX12_noted 6 = .ok (.iload_n 1, 1) := by decide +kernel
theorem dX12_noted_7 : decode cX12_noted 7 = .ok (.invokevirtual 339, 3) := by decide +kernel
theorem dX12_noted_10 : decode cX12_noted 10 = .ok (.ifCond .eq 24, 3) := by decide +kernel
theorem dX12_noted_13 : decode cX12_noted 13 = .ok (.iload_n 2, 1) := by decide +kernel
theorem dX12_noted_14 : decode cX12_noted 14 = .ok (.i2l, 1) := by decide +kernel
theorem dX12_noted_15 : decode cX12_noted 15 = .ok (.lconst 0, 1) := by decide +kernel
theorem dX12_noted_16 : decode cX12_noted 16 = .ok (.ldc2_w 392, 3) := by decide +kernel
theorem dX12_noted_19 : decode cX12_noted 19 = .ok (.invokestatic 224, 3) := by decide +kernel
theorem dX12_noted_22 : decode cX12_noted 22 = .ok (.ifCond .eq 12, 3) := by decide +kernel
theorem dX12_noted_25 : decode cX12_noted 25 = .ok (.aload_n 0, 1) := by decide +kernel
theorem dX12_noted_26 : decode cX12_noted 26 = .ok (.getfield 296, 3) := by decide +kernel
theorem dX12_noted_29 : decode cX12_noted 29 = .ok (.bipush 10, 2) := by decide +kernel
theorem dX12_noted_31 : decode cX12_noted 31 = .ok (.if_icmp .ne 5, 3) := by decide +kernel
theorem dX12_noted_34 : decode cX12_noted 34 = .ok (.iconst (-1), 1) := by decide +kernel
theorem dX12_noted_35 : decode cX12_noted 35 = .ok (.ireturn, 1) := by decide +kernel
theorem dX12_noted_36 : decode cX12_noted 36 = .ok (.aload_n 0, 1) := by decide +kernel
theorem dX12_noted_37 : decode cX12_noted 37 = .ok (.getfield 81, 3) := by decide +kernel
theorem dX12_noted_40 : decode cX12_noted 40 = .ok (.aload_n 0, 1) := by decide +kernel
theorem dX12_noted_41 : decode cX12_noted 41 = .ok (.getfield 296, 3) := by decide +kernel
theorem dX12_noted_44 : decode cX12_noted 44 = .ok (.iload_n 1, 1) := by decide +kernel
theorem dX12_noted_45 : decode cX12_noted 45 = .ok (.iastore, 1) := by decide +kernel
theorem dX12_noted_46 : decode cX12_noted 46 = .ok (.aload_n 0, 1) := by decide +kernel
theorem dX12_noted_47 : decode cX12_noted 47 = .ok (.getfield 84, 3) := by decide +kernel
theorem dX12_noted_50 : decode cX12_noted 50 = .ok (.aload_n 0, 1) := by decide +kernel
theorem dX12_noted_51 : decode cX12_noted 51 = .ok (.getfield 296, 3) := by decide +kernel
theorem dX12_noted_54 : decode cX12_noted 54 = .ok (.iload_n 2, 1) := by decide +kernel
theorem dX12_noted_55 : decode cX12_noted 55 = .ok (.iastore, 1) := by decide +kernel
theorem dX12_noted_56 : decode cX12_noted 56 = .ok (.aload_n 0, 1) := by decide +kernel
theorem dX12_noted_57 : decode cX12_noted 57 = .ok (.getfield 93, 3) := by decide +kernel
theorem dX12_noted_60 : decode cX12_noted 60 = .ok (.aload_n 0, 1) := by decide +kernel
theorem dX12_noted_61 : decode cX12_noted 61 = .ok (.getfield 296, 3) := by decide +kernel
theorem dX12_noted_64 : decode cX12_noted 64 = .ok (.iload_n 3, 1) := by decide +kernel
theorem dX12_noted_65 : decode cX12_noted 65 = .ok (.bastore, 1) := by decide +kernel
theorem dX12_noted_66 : decode cX12_noted 66 = .ok (.aload_n 0, 1) := by decide +kernel
theorem dX12_noted_67 : decode cX12_noted 67 = .ok (.dup, 1) := by decide +kernel
theorem dX12_noted_68 : decode cX12_noted 68 = .ok (.getfield 296, 3) := by decide +kernel
theorem dX12_noted_71 : decode cX12_noted 71 = .ok (.iconst 1, 1) := by decide +kernel
theorem dX12_noted_72 : decode cX12_noted 72 = .ok (.iadd, 1) := by decide +kernel
theorem dX12_noted_73 : decode cX12_noted 73 = .ok (.putfield 296, 3) := by decide +kernel
theorem dX12_noted_76 : decode cX12_noted 76 = .ok (.aload_n 0, 1) := by decide +kernel
theorem dX12_noted_77 : decode cX12_noted 77 = .ok (.getfield 296, 3) := by decide +kernel
theorem dX12_noted_80 : decode cX12_noted 80 = .ok (.ireturn, 1) := by decide +kernel
theorem dX12_isNoted_0 : decode cX12_isNoted 0 = .ok (.iconst 0, 1) := by decide +kernel
theorem dX12_isNoted_1 : decode cX12_isNoted 1 = .ok (.istore_n 2, 1) := by decide +kernel
theorem dX12_isNoted_2 : decode cX12_isNoted 2 = .ok (.iload_n 2, 1) := by decide +kernel
theorem dX12_isNoted_3 : decode cX12_isNoted 3 = .ok (.aload_n 0, 1) := by decide +kernel
theorem dX12_isNoted_4 : decode cX12_isNoted 4 = .ok (.getfield 296, 3) := by decide +kernel
theorem dX12_isNoted_7 : decode cX12_isNoted 7 = .ok (.if_icmp .ge 59, 3) := by decide +kernel
theorem dX12_isNoted_10 : decode cX12_isNoted 10 = .ok (.aload_n 0, 1) := by decide +kernel
theorem dX12_isNoted_11 : decode cX12_isNoted 11 = .ok (.getfield 81, 3) := by decide +kernel
theorem dX12_isNoted_14 : decode cX12_isNoted 14 = .ok (.iload_n 2, 1) := by decide +kernel
theorem dX12_isNoted_15 : decode cX12_isNoted 15 = .ok (.iaload, 1) := by decide +kernel
theorem dX12_isNoted_16 : decode cX12_isNoted 16 = .ok (.istore_n 3, 1) := by decide +kernel
theorem dX12_isNoted_17 : decode cX12_isNoted 17 = .ok (.iload_n 1, 1) := by decide +kernel
theorem dX12_isNoted_18 : decode cX12_isNoted 18 = .ok (.iload_n 3, 1) := by decide +kernel
theorem dX12_isNoted_19 : decode cX12_isNoted 19 = .ok (.invokestatic 236, 3) := by decide +kernel
theorem dX12_isNoted_22 : decode cX12_isNoted 22 = .ok (.ifCond .eq 22, 3) := by decide +kernel
theorem dX12_isNoted_25 : decode cX12_isNoted 25 = .ok (.aload_n 0, 1) := by decide +kernel
theorem dX12_isNoted_26 : decode cX12_isNoted 26 = .ok (.getfield 87, 3) := by decide +kernel
theorem dX12_isNoted_29 : decode cX12_isNoted 29 = .ok (.iload_n 3, 1) := by decide +kernel
theorem dX12_isNoted_30 : decode cX12_isNoted 30 = .ok (.iaload, 1) := by decide +kernel
theorem dX12_isNoted_31 : decode cX12_isNoted 31 = .ok (.aload_n 0, 1) := by decide +kernel
theorem dX12_isNoted_32 : decode cX12_isNoted 32 = .ok (.getfield 84, 3) := by decide +kernel
theorem dX12_isNoted_35 : decode cX12_isNoted 35 = .ok (.iload_n 2, 1) := by decide +kernel
theorem dX12_isNoted_36 : decode cX12_isNoted 36 = .ok (.iaload, 1) := by decide +kernel
theorem dX12_isNoted_37 : decode cX12_isNoted 37 = .ok (.if_icmp .gt 7, 3) := by decide +kernel
theorem dX12_isNoted_40 : decode cX12_isNoted 40 = .ok (.iconst 1, 1) := by decide +kernel
theorem dX12_isNoted_41 : decode cX12_isNoted 41 = .ok (.goto 4, 3) := by decide +kernel
theorem dX12_isNoted_44 : decode cX12_isNoted 44 = .ok (.iconst 0, 1) := by decide +kernel
theorem dX12_isNoted_45 : decode cX12_isNoted 45 = .ok (.istore 4, 2) := by decide +kernel
theorem dX12_isNoted_47 : decode cX12_isNoted 47 = .ok (.iload 4, 2) := by decide +kernel
theorem dX12_isNoted_49 : decode cX12_isNoted 49 = .ok (.aload_n 0, 1) := by decide +kernel
theorem dX12_isNoted_50 : decode cX12_isNoted 50 = .ok (.getfield 93, 3) := by decide +kernel
theorem dX12_isNoted_53 : decode cX12_isNoted 53 = .ok (.iload_n 2, 1) := by decide +kernel
theorem dX12_isNoted_54 : decode cX12_isNoted 54 = .ok (.baload, 1) := by decide +kernel
theorem dX12_isNoted_55 : decode cX12_isNoted 55 = .ok (.if_icmp .eq 5, 3) := by decide +kernel
theorem dX12_isNoted_58 : decode cX12_isNoted 58 = .ok (.iconst 0, 1) := by decide +kernel
theorem dX12_isNoted_59 : decode cX12_isNoted 59 = .ok (.ireturn, 1) := by decide +kernel
theorem dX12_isNoted_60 : decode cX12_isNoted 60 = .ok (.iinc 2 1, 3) := by decide +kernel
theorem dX12_isNoted_63 : decode cX12_isNoted 63 = .ok (.goto (-61), 3) := by decide +kernel
theorem dX12_isNoted_66 : decode cX12_isNoted 66 = .ok (.iconst 1, 1) := by decide +kernel
theorem dX12_isNoted_67 : decode cX12_isNoted 67 = .ok (.ireturn, 1) := by decide +kernel
theorem dX12_goWays_0 : decode cX12_goWays 0 = .ok (.iload_n 1, 1) := by decide +kernel
theorem dX12_goWays_1 : decode cX12_goWays 1 = .ok (.ifCond .ne 109, 3) := by decide +kernel
theorem dX12_goWays_4 : decode cX12_goWays 4 = .ok (.aload_n 0, 1) := by decide +kernel
theorem dX12_goWays_5 : decode cX12_goWays 5 = .ok (.iload 4, 2) := by decide +kernel
theorem dX12_goWays_7 : decode cX12_goWays 7 = .ok (.invokevirtual 440, 3) := by decide +kernel
theorem dX12_goWays_10 : decode cX12_goWays 10 = .ok (.ifCond .ne 4, 3) := by decide +kernel
theorem dX12_goWays_13 : decode cX12_goWays 13 = .ok (.return_, 1) := by decide +kernel
theorem dX12_goWays_14 : decode cX12_goWays 14 = .ok (.aload_n 0, 1) := by decide +kernel
theorem dX12_goWays_15 : decode cX12_goWays 15 = .ok (.getfield 443, 3) := by decide +kernel
theorem dX12_goWays_18 : decode cX12_goWays 18 = .ok (.aload_n 0, 1) := by decide +kernel
theorem dX12_goWays_19 : decode cX12_goWays 19 = .ok (.getfield 446, 3) := by decide +kernel
theorem dX12_goWays_22 : decode cX12_goWays 22 = .ok (.if_icmp .ne 9, 3) := by decide +kernel
theorem dX12_goWays_25 : decode cX12_goWays 25 = .ok (.aload_n 0, 1) := by decide +kernel
theorem dX12_goWays_26 : decode cX12_goWays 26 = .ok (.iload 5, 2) := by decide +kernel
theorem dX12_goWays_28 : decode cX12_goWays 28 = .ok (.putfield 417, 3) := by decide +kernel
theorem dX12_goWays_31 : decode cX12_goWays 31 = .ok (.aload_n 0, 1) := by decide +kernel
theorem dX12_goWays_32 : decode cX12_goWays 32 = .ok (.dup, 1) := by decide +kernel
theorem dX12_goWays_33 : decode cX12_goWays 33 = .ok (.getfield 443, 3) := by decide +kernel
theorem dX12_goWays_36 : decode cX12_goWays 36 = .ok (.iconst 1, 1) := by decide +kernel
theorem dX12_goWays_37 : decode cX12_goWays 37 = .ok (.iadd, 1) := by decide +kernel
theorem dX12_goWays_38 : decode cX12_goWays 38 = .ok (.putfield 443, 3) := by decide +kernel
theorem dX12_goWays_41 : decode cX12_goWays 41 = .ok (.aload_n 0, 1) := by decide +kernel
theorem dX12_goWays_42 : decode cX12_goWays 42 = .ok (.dup, 1) := by decide +kernel
theorem dX12_goWays_43 : decode cX12_goWays 43 = .ok (.getfield 449, 3) := by decide +kernel
theorem dX12_goWays_46 : decode cX12_goWays 46 = .ok (.iload 4, 2) := by decide +kernel
theorem dX12_goWays_48 : decode cX12_goWays 48 = .ok (.iand, 1) := by decide +kernel
theorem dX12_goWays_49 : decode cX12_goWays 49 = .ok (.putfield 449, 3) := by decide +kernel
theorem dX12_goWays_52 : decode cX12_goWays 52 = .ok (.iconst 0, 1) := by decide +kernel
theorem dX12_goWays_53 : decode cX12_goWays 53 = .ok (.istore 6, 2) := by decide +kernel
theorem dX12_goWays_55 : decode cX12_goWays 55 = .ok (.iload 6, 2) := by decide +kernel
theorem dX12_goWays_57 : decode cX12_goWays 57 = .ok (.aload_n 0, 1) := by decide +kernel
theorem dX12_goWays_58 : decode cX12_goWays 58 = .ok (.getfield 293, 3) := by decide +kernel
theorem dX12_goWays_61 : decode cX12_goWays 61 = .ok (.if_icmp .ge 48, 3) := by decide +kernel
theorem dX12_goWays_64 : decode cX12_goWays 64 = .ok (.aload_n 0, 1) := by decide +kernel
theorem dX12_goWays_65 : decode cX12_goWays 65 = .ok (.getfield 90, 3) := by decide +kernel
theorem dX12_goWays_68 : decode cX12_goWays 68 = .ok (.iload 6, 2) := by decide +kernel
theorem dX12_goWays_70 : decode cX12_goWays 70 = .ok (.dup2, 1) := by decide +kernel
theorem dX12_goWays_71 : decode cX12_goWays 71 = .ok (.iaload, 1) := by decide +kernel
theorem dX12_goWays_72 : decode cX12_goWays 72 = .ok (.iload 4, 2) := by decide +kernel
theorem dX12_goWays_74 : decode cX12_goWays 74 = .ok (.iload 6, 2) := by decide +kernel
theorem dX12_goWays_76 : decode cX12_goWays 76 = .ok (.invokestatic 236, 3) := by decide +kernel
theorem dX12_goWays_79 : decode cX12_goWays 79 = .ok (.ifCond .eq 21, 3) := by decide +kernel
theorem dX12_goWays_82 : decode cX12_goWays 82 = .ok (.aload_n 0, 1) := by decide +kernel
theorem dX12_goWays_83 : decode cX12_goWays 83 = .ok (.getfield 87, 3) := by decide +kernel
theorem dX12_goWays_86 : decode cX12_goWays 86 = .ok (.iload 6, 2) := by decide +kernel
theorem dX12_goWays_88 : decode cX12_goWays 88 = .ok (.iaload, 1) := by decide +kernel
theorem dX12_goWays_89 : decode cX12_goWays 89 = .ok (.aload_n 0, 1) := by decide +kernel
theorem dX12_goWays_90 : decode cX12_goWays 90 = .ok (.getfield 452, 3) := by decide +kernel
theorem dX12_goWays_93 : decode cX12_goWays 93 = .ok (.if_icmp .gt 7, 3) := by decide +kernel
theorem dX12_goWays_96 : decode cX12_goWays 96 = .ok (.iconst 1, 1) := by decide +kernel
theorem dX12_goWays_97 : decode cX12_goWays 97 = .ok (.goto 4, 3) := by decide +kernel
theorem dX12_goWays_100 : decode cX12_goWays 100 = .ok (.iconst (-1), 1) := by decide +kernel
theorem dX12_goWays_101 : decode cX12_goWays 101 = .ok (.iadd, 1) := by decide +kernel
theorem dX12_goWays_102 : decode cX12_goWays 102 = .ok (.iastore, 1) := by decide +kernel
theorem dX12_goWays_103 : decode cX12_goWays 103 = .ok (.iinc 6 1, 3) := by decide +kernel
theorem dX12_goWays_106 : decode cX12_goWays 106 = .ok (.goto (-51), 3) := by decide +kernel
theorem dX12_goWays_109 : decode cX12_goWays 109 = .ok (.return_, 1) := by decide +kernel
theorem dX12_goWays_110 : decode cX12_goWays 110 = .ok (.iconst 0, 1) := by decide +kernel
theorem dX12_goWays_111 : decode cX12_goWays 111 = .ok (.istore 6, 2) := by decide +kernel
theorem dX12_goWays_113 : decode cX12_goWays 113 = .ok (.iload 6, 2) := by decide +kernel
theorem dX12_goWays_115 : decode cX12_goWays 115 = .ok (.aload_n 0, 1) := by decide +kernel
theorem dX12_goWays_116 : decode cX12_goWays 116 = .ok (.getfield 293, 3) := by decide +kernel
theorem dX12_goWays_119 : decode cX12_goWays 119 = .ok (.if_icmp .ge 71, 3) := by decide +kernel
theorem dX12_goWays_122 : decode cX12_goWays 122 = .ok (.iload 4, 2) := by decide +kernel
theorem dX12_goWays_124 : decode cX12_goWays 124 = .ok (.iload 6, 2) := by decide +kernel
theorem dX12_goWays_126 : decode cX12_goWays 126 = .ok (.invokestatic 236, 3) := by decide +kernel
theorem dX12_goWays_129 : decode cX12_goWays 129 = .ok (.ifCond .eq 6, 3) := by decide +kernel
theorem dX12_goWays_132 : decode cX12_goWays 132 = .ok (.goto 52, 3) := by decide +kernel
theorem dX12_goWays_135 : decode cX12_goWays 135 = .ok (.aload_n 0, 1) := by decide +kernel
theorem dX12_goWays_136 : decode cX12_goWays 136 = .ok (.getfield 87, 3) := by decide +kernel
theorem dX12_goWays_139 : decode cX12_goWays 139 = .ok (.iload 6, 2) := by decide +kernel
theorem dX12_goWays_141 : decode cX12_goWays 141 = .ok (.iload_n 3, 1) := by decide +kernel
theorem dX12_goWays_142 : decode cX12_goWays 142 = .ok (.aload_n 0, 1) := by decide +kernel
theorem dX12_goWays_143 : decode cX12_goWays 143 = .ok (.iload_n 2, 1) := by decide +kernel
theorem dX12_goWays_144 : decode cX12_goWays 144 = .ok (.iload 6, 2) := by decide +kernel
theorem dX12_goWays_146 : decode cX12_goWays 146 = .ok (.invokevirtual 315, 3) := by decide +kernel
theorem dX12_goWays_149 : decode cX12_goWays 149 = .ok (.iadd, 1) := by decide +kernel
theorem dX12_goWays_150 : decode cX12_goWays 150 = .ok (.iastore, 1) := by decide +kernel
theorem dX12_goWays_151 : decode cX12_goWays 151 = .ok (.aload_n 0, 1) := by decide +kernel
theorem dX12_goWays_152 : decode cX12_goWays 152 = .ok (.iload_n 1, 1) := by decide +kernel
theorem dX12_goWays_153 : decode cX12_goWays 153 = .ok (.iconst 1, 1) := by decide +kernel
theorem dX12_goWays_154 : decode cX12_goWays 154 = .ok (.isub, 1) := by decide +kernel
theorem dX12_goWays_155 : decode cX12_goWays 155 = .ok (.iload 6, 2) := by decide +kernel
theorem dX12_goWays_157 : decode cX12_goWays 157 = .ok (.aload_n 0, 1) := by decide +kernel
theorem dX12_goWays_158 : decode cX12_goWays 158 = .ok (.getfield 87, 3) := by decide +kernel
theorem dX12_goWays_161 : decode cX12_goWays 161 = .ok (.iload 6, 2) := by decide +kernel
theorem dX12_goWays_163 : decode cX12_goWays 163 = .ok (.iaload, 1) := by decide +kernel
theorem dX12_goWays_164 : decode cX12_goWays 164 = .ok (.iconst 1, 1) := by decide +kernel
theorem dX12_goWays_165 : decode cX12_goWays 165 = .ok (.iadd, 1) := by decide +kernel
theorem dX12_goWays_166 : decode cX12_goWays 166 = .ok (.iload 4, 2) := by decide +kernel
theorem dX12_goWays_168 : decode cX12_goWays 168 = .ok (.iconst 1, 1) := by decide +kernel
theorem dX12_goWays_169 : decode cX12_goWays 169 = .ok (.iload 6, 2) := by decide +kernel
theorem dX12_goWays_171 : decode cX12_goWays 171 = .ok (.ishl, 1) := by decide +kernel
theorem dX12_goWays_172 : decode cX12_goWays 172 = .ok (.ior, 1) := by decide +kernel
theorem dX12_goWays_173 : decode cX12_goWays 173 = .ok (.bipush 10, 2) := by decide +kernel
theorem dX12_goWays_175 : decode cX12_goWays 175 = .ok (.iload 5, 2) := by decide +kernel
theorem dX12_goWays_177 : decode cX12_goWays 177 = .ok (.imul, 1) := by decide +kernel
theorem dX12_goWays_178 : decode cX12_goWays 178 = .ok (.iload 6, 2) := by decide +kernel
theorem dX12_goWays_180 : decode cX12_goWays 180 = .ok (.iadd, 1) := by decide +kernel
theorem dX12_goWays_181 : decode cX12_goWays 181 = .ok (.invokevirtual 455, 3) := by decide +kernel
theorem dX12_goWays_184 : decode cX12_goWays 184 = .ok (.iinc 6 1, 3) := by decide +kernel
theorem dX12_goWays_187 : decode cX12_goWays 187 = .ok (.goto (-74), 3) := by decide +kernel
theorem dX12_goWays_190 : decode cX12_goWays 190 = .ok (.return_, 1) := by decide +kernel
theorem dX12_laysWays_0 : decode cX12_laysWays 0 = .ok (.aload_n 0, 1) := by decide +kernel
theorem dX12_laysWays_1 : decode cX12_laysWays 1 = .ok (.getfield 293, 3) := by decide +kernel
theorem dX12_laysWays_4 : decode cX12_laysWays 4 = .ok (.ifCond .eq 15, 3) := by decide +kernel
theorem dX12_laysWays_7 : decode cX12_laysWays 7 = .ok (.iload_n 1, 1) := by decide +kernel
theorem dX12_laysWays_8 : decode cX12_laysWays 8 = .ok (.i2l, 1) := by decide +kernel
theorem dX12_laysWays_9 : decode cX12_laysWays 9 = .ok (.lconst 1, 1) := by decide +kernel
theorem dX12_laysWays_10 : decode cX12_laysWays 10 = .ok (.ldc2_w 318, 3) := by decide +kernel
theorem dX12_laysWays_13 : decode cX12_laysWays 13 = .ok (.invokestatic 224, 3) := by decide +kernel
theorem dX12_laysWays_16 : decode cX12_laysWays 16 = .ok (.ifCond .ne 5, 3) := by decide +kernel
theorem dX12_laysWays_19 : decode cX12_laysWays 19 = .ok (.iconst 0, 1) := by decide +kernel
theorem dX12_laysWays_20 : decode cX12_laysWays 20 = .ok (.ireturn, 1) := by decide +kernel
theorem dX12_laysWays_21 : decode cX12_laysWays 21 = .ok (.aload_n 0, 1) := by decide +kernel
theorem dX12_laysWays_22 : decode cX12_laysWays 22 = .ok (.iconst 0, 1) := by decide +kernel
theorem dX12_laysWays_23 : decode cX12_laysWays 23 = .ok (.putfield 443, 3) := by decide +kernel
theorem dX12_laysWays_26 : decode cX12_laysWays 26 = .ok (.aload_n 0, 1) := by decide +kernel
theorem dX12_laysWays_27 : decode cX12_laysWays 27 = .ok (.iload_n 2, 1) := by decide +kernel
theorem dX12_laysWays_28 : decode cX12_laysWays 28 = .ok (.putfield 446, 3) := by decide +kernel
theorem dX12_laysWays_31 : decode cX12_laysWays 31 = .ok (.aload_n 0, 1) := by decide +kernel
theorem dX12_laysWays_32 : decode cX12_laysWays 32 = .ok (.iload_n 3, 1) := by decide +kernel
theorem dX12_laysWays_33 : decode cX12_laysWays 33 = .ok (.putfield 452, 3) := by decide +kernel
theorem dX12_laysWays_36 : decode cX12_laysWays 36 = .ok (.aload_n 0, 1) := by decide +kernel
theorem dX12_laysWays_37 : decode cX12_laysWays 37 = .ok (.iconst (-1), 1) := by decide +kernel
theorem dX12_laysWays_38 : decode cX12_laysWays 38 = .ok (.putfield 417, 3) := by decide +kernel
theorem dX12_laysWays_41 : decode cX12_laysWays 41 = .ok (.aload_n 0, 1) := by decide +kernel
theorem dX12_laysWays_42 : decode cX12_laysWays 42 = .ok (.iconst 1, 1) := by decide +kernel
theorem dX12_laysWays_43 : decode cX12_laysWays 43 = .ok (.aload_n 0, 1) := by decide +kernel
theorem dX12_laysWays_44 : decode cX12_laysWays 44 = .ok (.getfield 293, 3) := by decide +kernel
theorem dX12_laysWays_47 : decode cX12_laysWays 47 = .ok (.ishl, 1) := by decide +kernel
theorem dX12_laysWays_48 : decode cX12_laysWays 48 = .ok (.iconst 1, 1) := by decide +kernel
theorem dX12_laysWays_49 : decode cX12_laysWays 49 = .ok (.isub, 1) := by decide +kernel
theorem dX12_laysWays_50 : decode cX12_laysWays 50 = .ok (.putfield 449, 3) := by decide +kernel
theorem dX12_laysWays_53 : decode cX12_laysWays 53 = .ok (.iconst 0, 1) := by decide +kernel
theorem dX12_laysWays_54 : decode cX12_laysWays 54 = .ok (.istore 4, 2) := by decide +kernel
theorem dX12_laysWays_56 : decode cX12_laysWays 56 = .ok (.iload 4, 2) := by decide +kernel
theorem dX12_laysWays_58 : decode cX12_laysWays 58 = .ok (.bipush 7, 2) := by decide +kernel
theorem dX12_laysWays_60 : decode cX12_laysWays 60 = .ok (.if_icmp .ge 17, 3) := by decide +kernel
theorem dX12_laysWays_63 : decode cX12_laysWays 63 = .ok (.aload_n 0, 1) := by decide +kernel
theorem dX12_laysWays_64 : decode cX12_laysWays 64 = .ok (.getfield 90, 3) := by decide +kernel
theorem dX12_laysWays_67 : decode cX12_laysWays 67 = .ok (.iload 4, 2) := by decide +kernel
theorem dX12_laysWays_69 : decode cX12_laysWays 69 = .ok (.iconst 0, 1) := by decide +kernel
theorem dX12_laysWays_70 : decode cX12_laysWays 70 = .ok (.iastore, 1) := by decide +kernel
theorem dX12_laysWays_71 : decode cX12_laysWays 71 = .ok (.iinc 4 1, 3) := by decide +kernel
theorem dX12_laysWays_74 : decode cX12_laysWays 74 = .ok (.goto (-18), 3) := by decide +kernel
theorem dX12_laysWays_77 : decode cX12_laysWays 77 = .ok (.aload_n 0, 1) := by decide +kernel
theorem dX12_laysWays_78 : decode cX12_laysWays 78 = .ok (.iload_n 1, 1) := by decide +kernel
theorem dX12_laysWays_79 : decode cX12_laysWays 79 = .ok (.iconst (-1), 1) := by decide +kernel
theorem dX12_laysWays_80 : decode cX12_laysWays 80 = .ok (.iconst 0, 1) := by decide +kernel
theorem dX12_laysWays_81 : decode cX12_laysWays 81 = .ok (.iconst 0, 1) := by decide +kernel
theorem dX12_laysWays_82 : decode cX12_laysWays 82 = .ok (.iconst 0, 1) := by decide +kernel
theorem dX12_laysWays_83 : decode cX12_laysWays 83 = .ok (.invokevirtual 455, 3) := by decide +kernel
theorem dX12_laysWays_86 : decode cX12_laysWays 86 = .ok (.iconst 1, 1) := by decide +kernel
theorem dX12_laysWays_87 : decode cX12_laysWays 87 = .ok (.ireturn, 1) := by decide +kernel
theorem dX12_ways_0 : decode cX12_ways 0 = .ok (.aload_n 0, 1) := by decide +kernel
theorem dX12_ways_1 : decode cX12_ways 1 = .ok (.iconst 0, 1) := by decide +kernel
theorem dX12_ways_2 : decode cX12_ways 2 = .ok (.putfield 103, 3) := by decide +kernel
theorem dX12_ways_5 : decode cX12_ways 5 = .ok (.iload_n 2, 1) := by decide +kernel
theorem dX12_ways_6 : decode cX12_ways 6 = .ok (.iconst (-1), 1) := by decide +kernel
theorem dX12_ways_7 : decode cX12_ways 7 = .ok (.if_icmp .lt 13, 3) := by decide +kernel
theorem dX12_ways_10 : decode cX12_ways 10 = .ok (.aload_n 0, 1) := by decide +kernel
theorem dX12_ways_11 : decode cX12_ways 11 = .ok (.iload_n 1, 1) := by decide +kernel
theorem dX12_ways_12 : decode cX12_ways 12 = .ok (.iload_n 2, 1) := by decide +kernel
theorem dX12_ways_13 : decode cX12_ways 13 = .ok (.iconst 0, 1) := by decide +kernel
theorem dX12_ways_14 : decode cX12_ways 14 = .ok (.invokevirtual 459, 3) := by decide +kernel
theorem dX12_ways_17 : decode cX12_ways 17 = .ok (.ifCond .ne 5, 3) := by decide +kernel
theorem dX12_ways_20 : decode cX12_ways 20 = .ok (.iconst (-1), 1) := by decide +kernel
theorem dX12_ways_21 : decode cX12_ways 21 = .ok (.ireturn, 1) := by decide +kernel
theorem dX12_ways_22 : decode cX12_ways 22 = .ok (.iload_n 2, 1) := by decide +kernel
theorem dX12_ways_23 : decode cX12_ways 23 = .ok (.iconst (-1), 1) := by decide +kernel
theorem dX12_ways_24 : decode cX12_ways 24 = .ok (.if_icmp .ne 10, 3) := by decide +kernel
theorem dX12_ways_27 : decode cX12_ways 27 = .ok (.aload_n 0, 1) := by decide +kernel
theorem dX12_ways_28 : decode cX12_ways 28 = .ok (.getfield 443, 3) := by decide +kernel
theorem dX12_ways_31 : decode cX12_ways 31 = .ok (.goto 7, 3) := by decide +kernel
theorem dX12_ways_34 : decode cX12_ways 34 = .ok (.aload_n 0, 1) := by decide +kernel
theorem dX12_ways_35 : decode cX12_ways 35 = .ok (.getfield 417, 3) := by decide +kernel
theorem dX12_ways_38 : decode cX12_ways 38 = .ok (.ireturn, 1) := by decide +kernel
theorem dX12_ask_0 : decode cX12_ask 0 = .ok (.aload_n 0, 1) := by decide +kernel
theorem dX12_ask_1 : decode cX12_ask 1 = .ok (.iconst 0, 1) := by decide +kernel
theorem dX12_ask_2 : decode cX12_ask 2 = .ok (.putfield 103, 3) := by decide +kernel
theorem dX12_ask_5 : decode cX12_ask 5 = .ok (.iload_n 2, 1) := by decide +kernel
theorem dX12_ask_6 : decode cX12_ask 6 = .ok (.i2l, 1) := by decide +kernel
theorem dX12_ask_7 : decode cX12_ask 7 = .ok (.lconst 0, 1) := by decide +kernel
theorem dX12_ask_8 : decode cX12_ask 8 = .ok (.ldc2_w 392, 3) := by decide +kernel
theorem dX12_ask_11 : decode cX12_ask 11 = .ok (.invokestatic 224, 3) := by decide +kernel
theorem dX12_ask_14 : decode cX12_ask 14 = .ok (.ifCond .eq 20, 3) := by decide +kernel
theorem dX12_ask_17 : decode cX12_ask 17 = .ok (.aload_n 0, 1) := by decide +kernel
theorem dX12_ask_18 : decode cX12_ask 18 = .ok (.iload_n 1, 1) := by decide +kernel
theorem dX12_ask_19 : decode cX12_ask 19 = .ok (.iconst (-1), 1) := by decide +kernel
theorem dX12_ask_20 : decode cX12_ask 20 = .ok (.iload_n 2, 1) := by decide +kernel
theorem dX12_ask_21 : decode cX12_ask 21 = .ok (.invokevirtual 459, 3) := by decide +kernel
theorem dX12_ask_24 : decode cX12_ask 24 = .ok (.ifCond .eq 10, 3) := by decide +kernel
theorem dX12_ask_27 : decode cX12_ask 27 = .ok (.aload_n 0, 1) := by decide +kernel
theorem dX12_ask_28 : decode cX12_ask 28 = .ok (.getfield 443, 3) := by decide +kernel
theorem dX12_ask_31 : decode cX12_ask 31 = .ok (.ifCond .ne 5, 3) := by decide +kernel
theorem dX12_ask_34 : decode cX12_ask 34 = .ok (.iconst (-1), 1) := by decide +kernel
theorem dX12_ask_35 : decode cX12_ask 35 = .ok (.ireturn, 1) := by decide +kernel
theorem dX12_ask_36 : decode cX12_ask 36 = .ok (.iconst 0, 1) := by decide +kernel
theorem dX12_ask_37 : decode cX12_ask 37 = .ok (.istore_n 3, 1) := by decide +kernel
theorem dX12_ask_38 : decode cX12_ask 38 = .ok (.iconst 1, 1) := by decide +kernel
theorem dX12_ask_39 : decode cX12_ask 39 = .ok (.istore 4, 2) := by decide +kernel
theorem dX12_ask_41 : decode cX12_ask 41 = .ok (.iload 4, 2) := by decide +kernel
theorem dX12_ask_43 : decode cX12_ask 43 = .ok (.aload_n 0, 1) := by decide +kernel
theorem dX12_ask_44 : decode cX12_ask 44 = .ok (.getfield 293, 3) := by decide +kernel
theorem dX12_ask_47 : decode cX12_ask 47 = .ok (.if_icmp .ge 38, 3) := by decide +kernel
theorem dX12_ask_50 : decode cX12_ask 50 = .ok (.aload_n 0, 1) := by decide +kernel
theorem dX12_ask_51 : decode cX12_ask 51 = .ok (.getfield 90, 3) := by decide +kernel
theorem dX12_ask_54 : decode cX12_ask 54 = .ok (.iload 4, 2) := by decide +kernel
theorem dX12_ask_56 : decode cX12_ask 56 = .ok (.iaload, 1) := by decide +kernel
theorem dX12_ask_57 : decode cX12_ask 57 = .ok (.invokestatic 308, 3) := by decide +kernel
theorem dX12_ask_60 : decode cX12_ask 60 = .ok (.aload_n 0, 1) := by decide +kernel
theorem dX12_ask_61 : decode cX12_ask 61 = .ok (.getfield 90, 3) := by decide +kernel
theorem dX12_ask_64 : decode cX12_ask 64 = .ok (.iload_n 3, 1) := by decide +kernel
theorem dX12_ask_65 : decode cX12_ask 65 = .ok (.iaload, 1) := by decide +kernel
theorem dX12_ask_66 : decode cX12_ask 66 = .ok (.invokestatic 308, 3) := by decide +kernel
theorem dX12_ask_69 : decode cX12_ask 69 = .ok (.if_icmp .ge 8, 3) := by decide +kernel
theorem dX12_ask_72 : decode cX12_ask 72 = .ok (.iload 4, 2) := by decide +kernel
theorem dX12_ask_74 : decode cX12_ask 74 = .ok (.goto 4, 3) := by decide +kernel
theorem dX12_ask_77 : decode cX12_ask 77 = .ok (.iload_n 3, 1) := by decide +kernel
theorem dX12_ask_78 : decode cX12_ask 78 = .ok (.istore_n 3, 1) := by decide +kernel
theorem dX12_ask_79 : decode cX12_ask 79 = .ok (.iinc 4 1, 3) := by decide +kernel
theorem dX12_ask_82 : decode cX12_ask 82 = .ok (.goto (-41), 3) := by decide +kernel
theorem dX12_ask_85 : decode cX12_ask 85 = .ok (.iload_n 3, 1) := by decide +kernel
theorem dX12_ask_86 : decode cX12_ask 86 = .ok (.ireturn, 1) := by decide +kernel
theorem dX12_always_0 : decode cX12_always 0 = .ok (.aload_n 0, 1) := by decide +kernel
theorem dX12_always_1 : decode cX12_always 1 = .ok (.iconst 0, 1) := by decide +kernel
theorem dX12_always_2 : decode cX12_always 2 = .ok (.putfield 103, 3) := by decide +kernel
theorem dX12_always_5 : decode cX12_always 5 = .ok (.aload_n 0, 1) := by decide +kernel
theorem dX12_always_6 : decode cX12_always 6 = .ok (.iload_n 1, 1) := by decide +kernel
theorem dX12_always_7 : decode cX12_always 7 = .ok (.iconst (-1), 1) := by decide +kernel
theorem dX12_always_8 : decode cX12_always 8 = .ok (.iconst 0, 1) := by decide +kernel
theorem dX12_always_9 : decode cX12_always 9 = .ok (.invokevirtual 459, 3) := by decide +kernel
theorem dX12_always_12 : decode cX12_always 12 = .ok (.ifCond .eq 17, 3) := by decide +kernel
theorem dX12_always_15 : decode cX12_always 15 = .ok (.aload_n 0, 1) := by decide +kernel
theorem dX12_always_16 : decode cX12_always 16 = .ok (.getfield 443, 3) := by decide +kernel
theorem dX12_always_19 : decode cX12_always 19 = .ok (.ifCond .le 10, 3) := by decide +kernel
theorem dX12_always_22 : decode cX12_always 22 = .ok (.aload_n 0, 1) := by decide +kernel
theorem dX12_always_23 : decode cX12_always 23 = .ok (.getfield 449, 3) := by decide +kernel
theorem dX12_always_26 : decode cX12_always 26 = .ok (.goto 4, 3) := by decide +kernel
theorem dX12_always_29 : decode cX12_always 29 = .ok (.iconst (-1), 1) := by decide +kernel
theorem dX12_always_30 : decode cX12_always 30 = .ok (.ireturn, 1) := by decide +kernel
theorem dX12_roundAt_0 : decode cX12_roundAt 0 = .ok (.iconst 0, 1) := by decide +kernel
theorem dX12_roundAt_1 : decode cX12_roundAt 1 = .ok (.istore_n 2, 1) := by decide +kernel
theorem dX12_roundAt_2 : decode cX12_roundAt 2 = .ok (.iconst (-1), 1) := by decide +kernel
theorem dX12_roundAt_3 : decode cX12_roundAt 3 = .ok (.istore_n 3, 1) := by decide +kernel
theorem dX12_roundAt_4 : decode cX12_roundAt 4 = .ok (.iconst 0, 1) := by decide +kernel
theorem dX12_roundAt_5 : decode cX12_roundAt 5 = .ok (.istore 4, 2) := by decide +kernel
theorem dX12_roundAt_7 : decode cX12_roundAt 7 = .ok (.iload 4, 2) := by decide +kernel
theorem dX12_roundAt_9 : decode cX12_roundAt 9 = .ok (.iconst 4, 1) := by decide +kernel
theorem dX12_roundAt_10 : decode cX12_roundAt 10 = .ok (.if_icmp .ge 66, 3) := by decide +kernel
theorem dX12_roundAt_13 : decode cX12_roundAt 13 = .ok (.iconst 0, 1) := by decide +kernel
theorem dX12_roundAt_14 : decode cX12_roundAt 14 = .ok (.istore 5, 2) := by decide +kernel
theorem dX12_roundAt_16 : decode cX12_roundAt 16 = .ok (.iload 5, 2) := by decide +kernel
theorem dX12_roundAt_18 : decode cX12_roundAt 18 = .ok (.aload_n 0, 1) := by decide +kernel
theorem dX12_roundAt_19 : decode cX12_roundAt 19 = .ok (.getfield 293, 3) := by decide +kernel
theorem dX12_roundAt_22 : decode cX12_roundAt 22 = .ok (.if_icmp .ge 48, 3) := by decide +kernel
theorem dX12_roundAt_25 : decode cX12_roundAt 25 = .ok (.aload_n 0, 1) := by decide +kernel
theorem dX12_roundAt_26 : decode cX12_roundAt 26 = .ok (.iload 5, 2) := by decide +kernel
theorem dX12_roundAt_28 : decode cX12_roundAt 28 = .ok (.iconst 2, 1) := by decide +kernel
theorem dX12_roundAt_29 : decode cX12_roundAt 29 = .ok (.invokevirtual 305, 3) := by decide +kernel
theorem dX12_roundAt_32 : decode cX12_roundAt 32 = .ok (.iload 4, 2) := by decide +kernel
theorem dX12_roundAt_34 : decode cX12_roundAt 34 = .ok (.if_icmp .eq 6, 3) := by decide +kernel
theorem dX12_roundAt_37 : decode cX12_roundAt 37 = .ok (.goto 27, 3) := by decide +kernel
theorem dX12_roundAt_40 : decode cX12_roundAt 40 = .ok (.iload_n 2, 1) := by decide +kernel
theorem dX12_roundAt_41 : decode cX12_roundAt 41 = .ok (.aload_n 0, 1) := by decide +kernel
theorem dX12_roundAt_42 : decode cX12_roundAt 42 = .ok (.iload_n 3, 1) := by decide +kernel
theorem dX12_roundAt_43 : decode cX12_roundAt 43 = .ok (.iload 5, 2) := by decide +kernel
theorem dX12_roundAt_45 : decode cX12_roundAt 45 = .ok (.invokevirtual 315, 3) := by decide +kernel
theorem dX12_roundAt_48 : decode cX12_roundAt 48 = .ok (.iadd, 1) := by decide +kernel
theorem dX12_roundAt_49 : decode cX12_roundAt 49 = .ok (.istore_n 2, 1) := by decide +kernel
theorem dX12_roundAt_50 : decode cX12_roundAt 50 = .ok (.iload 5, 2) := by decide +kernel
theorem dX12_roundAt_52 : decode cX12_roundAt 52 = .ok (.iload_n 1, 1) := by decide +kernel
theorem dX12_roundAt_53 : decode cX12_roundAt 53 = .ok (.if_icmp .ne 5, 3) := by decide +kernel
theorem dX12_roundAt_56 : decode cX12_roundAt 56 = .ok (.iload_n 2, 1) := by decide +kernel
theorem dX12_roundAt_57 : decode cX12_roundAt 57 = .ok (.ireturn, 1) := by decide +kernel
theorem dX12_roundAt_58 : decode cX12_roundAt 58 = .ok (.iinc 2 2, 3) := by decide +kernel
theorem dX12_roundAt_61 : decode cX12_roundAt 61 = .ok (.iload 5, 2) := by decide +kernel
theorem dX12_roundAt_63 : decode cX12_roundAt 63 = .ok (.istore_n 3, 1) := by decide +kernel
theorem dX12_roundAt_64 : decode cX12_roundAt 64 = .ok (.iinc 5 1, 3) := by decide +kernel
theorem dX12_roundAt_67 : decode cX12_roundAt 67 = .ok (.goto (-51), 3) := by decide +kernel
theorem dX12_roundAt_70 : decode cX12_roundAt 70 = .ok (.iinc 4 1, 3) := by decide +kernel
theorem dX12_roundAt_73 : decode cX12_roundAt 73 = .ok (.goto (-66), 3) := by decide +kernel
theorem dX12_roundAt_76 : decode cX12_roundAt 76 = .ok (.iconst (-1), 1) := by decide +kernel
theorem dX12_roundAt_77 : decode cX12_roundAt 77 = .ok (.ireturn, 1) := by decide +kernel
theorem dX12_round_0 : decode cX12_round 0 = .ok (.aload_n 0, 1) := by decide +kernel
theorem dX12_round_1 : decode cX12_round 1 = .ok (.iconst 0, 1) := by decide +kernel
theorem dX12_round_2 : decode cX12_round 2 = .ok (.putfield 103, 3) := by decide +kernel
theorem dX12_round_5 : decode cX12_round 5 = .ok (.aload_n 0, 1) := by decide +kernel
theorem dX12_round_6 : decode cX12_round 6 = .ok (.iload_n 1, 1) := by decide +kernel
theorem dX12_round_7 : decode cX12_round 7 = .ok (.invokevirtual 339, 3) := by decide +kernel
theorem dX12_round_10 : decode cX12_round 10 = .ok (.ifCond .eq 11, 3) := by decide +kernel
theorem dX12_round_13 : decode cX12_round 13 = .ok (.aload_n 0, 1) := by decide +kernel
theorem dX12_round_14 : decode cX12_round 14 = .ok (.iload_n 1, 1) := by decide +kernel
theorem dX12_round_15 : decode cX12_round 15 = .ok (.invokevirtual 463, 3) := by decide +kernel
theorem dX12_round_18 : decode cX12_round 18 = .ok (.goto 4, 3) := by decide +kernel
theorem dX12_round_21 : decode cX12_round 21 = .ok (.iconst (-1), 1) := by decide +kernel
theorem dX12_round_22 : decode cX12_round 22 = .ok (.ireturn, 1) := by decide +kernel
theorem dX12_laysRow_0 : decode cX12_laysRow 0 = .ok (.aload_n 0, 1) := by decide +kernel
theorem dX12_laysRow_1 : decode cX12_laysRow 1 = .ok (.getfield 293, 3) := by decide +kernel
theorem dX12_laysRow_4 : decode cX12_laysRow 4 = .ok (.ifCond .eq 19, 3) := by decide +kernel
theorem dX12_laysRow_7 : decode cX12_laysRow 7 = .ok (.iload_n 2, 1) := by decide +kernel
theorem dX12_laysRow_8 : decode cX12_laysRow 8 = .ok (.i2l, 1) := by decide +kernel
theorem dX12_laysRow_9 : decode cX12_laysRow 9 = .ok (.lconst 1, 1) := by decide +kernel
theorem dX12_laysRow_10 : decode cX12_laysRow 10 = .ok (.ldc2_w 466, 3) := by decide +kernel
theorem dX12_laysRow_13 : decode cX12_laysRow 13 = .ok (.invokestatic 224, 3) := by decide +kernel
theorem dX12_laysRow_16 : decode cX12_laysRow 16 = .ok (.ifCond .eq 7, 3) := by decide +kernel
theorem dX12_laysRow_19 : decode cX12_laysRow 19 = .ok (.iload_n 1, 1) := by decide +kernel
theorem dX12_laysRow_20 : decode cX12_laysRow 20 = .ok (.ifCond .ge 5, 3) := by decide +kernel
theorem dX12_laysRow_23 : decode cX12_laysRow 23 = .ok (.iconst 0, 1) := by decide +kernel
theorem dX12_laysRow_24 : decode cX12_laysRow 24 = .ok (.ireturn, 1) := by decide +kernel
theorem dX12_laysRow_25 : decode cX12_laysRow 25 = .ok (.iload_n 1, 1) := by decide +kernel
theorem dX12_laysRow_26 : decode cX12_laysRow 26 = .ok (.istore_n 3, 1) := by decide +kernel
theorem dX12_laysRow_27 : decode cX12_laysRow 27 = .ok (.iconst 0, 1) := by decide +kernel
theorem dX12_laysRow_28 : decode cX12_laysRow 28 = .ok (.istore 4, 2) := by decide +kernel
theorem dX12_laysRow_30 : decode cX12_laysRow 30 = .ok (.iload_n 2, 1) := by decide +kernel
theorem dX12_laysRow_31 : decode cX12_laysRow 31 = .ok (.iconst 1, 1) := by decide +kernel
theorem dX12_laysRow_32 : decode cX12_laysRow 32 = .ok (.isub, 1) := by decide +kernel
theorem dX12_laysRow_33 : decode cX12_laysRow 33 = .ok (.istore 5, 2) := by decide +kernel
theorem dX12_laysRow_35 : decode cX12_laysRow 35 = .ok (.iload 5, 2) := by decide +kernel
theorem dX12_laysRow_37 : decode cX12_laysRow 37 = .ok (.ifCond .lt 59, 3) := by decide +kernel
theorem dX12_laysRow_40 : decode cX12_laysRow 40 = .ok (.iload_n 3, 1) := by decide +kernel
theorem dX12_laysRow_41 : decode cX12_laysRow 41 = .ok (.bipush 10, 2) := by decide +kernel
theorem dX12_laysRow_43 : decode cX12_laysRow 43 = .ok (.irem, 1) := by decide +kernel
theorem dX12_laysRow_44 : decode cX12_laysRow 44 = .ok (.istore 6, 2) := by decide +kernel
theorem dX12_laysRow_46 : decode cX12_laysRow 46 = .ok (.iload_n 3, 1) := by decide +kernel
theorem dX12_laysRow_47 : decode cX12_laysRow 47 = .ok (.bipush 10, 2) := by decide +kernel
theorem dX12_laysRow_49 : decode cX12_laysRow 49 = .ok (.idiv, 1) := by decide +kernel
theorem dX12_laysRow_50 : decode cX12_laysRow 50 = .ok (.istore_n 3, 1) := by decide +kernel
theorem dX12_laysRow_51 : decode cX12_laysRow 51 = .ok (.aload_n 0, 1) := by decide +kernel
theorem dX12_laysRow_52 : decode cX12_laysRow 52 = .ok (.iload 6, 2) := by decide +kernel
theorem dX12_laysRow_54 : decode cX12_laysRow 54 = .ok (.invokevirtual 339, 3) := by decide +kernel
theorem dX12_laysRow_57 : decode cX12_laysRow 57 = .ok (.ifCond .eq 13, 3) := by decide +kernel
theorem dX12_laysRow_60 : decode cX12_laysRow 60 = .ok (.iload 4, 2) := by decide +kernel
theorem dX12_laysRow_62 : decode cX12_laysRow 62 = .ok (.iload 6, 2) := by decide +kernel
theorem dX12_laysRow_64 : decode cX12_laysRow 64 = .ok (.invokestatic 236, 3) := by decide +kernel
theorem dX12_laysRow_67 : decode cX12_laysRow 67 = .ok (.ifCond .eq 5, 3) := by decide +kernel
theorem dX12_laysRow_70 : decode cX12_laysRow 70 = .ok (.iconst 0, 1) := by decide +kernel
theorem dX12_laysRow_71 : decode cX12_laysRow 71 = .ok (.ireturn, 1) := by decide +kernel
theorem dX12_laysRow_72 : decode cX12_laysRow 72 = .ok (.iload 4, 2) := by decide +kernel
theorem dX12_laysRow_74 : decode cX12_laysRow 74 = .ok (.iconst 1, 1) := by decide +kernel
theorem dX12_laysRow_75 : decode cX12_laysRow 75 = .ok (.iload 6, 2) := by decide +kernel
theorem dX12_laysRow_77 : decode cX12_laysRow 77 = .ok (.ishl, 1) := by decide +kernel
theorem dX12_laysRow_78 : decode cX12_laysRow 78 = .ok (.ior, 1) := by decide +kernel
theorem dX12_laysRow_79 : decode cX12_laysRow 79 = .ok (.istore 4, 2) := by decide +kernel
theorem dX12_laysRow_81 : decode cX12_laysRow 81 = .ok (.aload_n 0, 1) := by decide +kernel
theorem dX12_laysRow_82 : decode cX12_laysRow 82 = .ok (.getfield 97, 3) := by decide +kernel
theorem dX12_laysRow_85 : decode cX12_laysRow 85 = .ok (.iload 5, 2) := by decide +kernel
theorem dX12_laysRow_87 : decode cX12_laysRow 87 = .ok (.iload 6, 2) := by decide +kernel
theorem dX12_laysRow_89 : decode cX12_laysRow 89 = .ok (.iastore, 1) := by decide +kernel
theorem dX12_laysRow_90 : decode cX12_laysRow 90 = .ok (.iinc 5 (-1), 3) := by decide +kernel
theorem dX12_laysRow_93 : decode cX12_laysRow 93 = .ok (.goto (-58), 3) := by decide +kernel
theorem dX12_laysRow_96 : decode cX12_laysRow 96 = .ok (.iload_n 3, 1) := by decide +kernel
theorem dX12_laysRow_97 : decode cX12_laysRow 97 = .ok (.ifCond .ne 7, 3) := by decide +kernel
theorem dX12_laysRow_100 : decode cX12_laysRow 100 = .ok (.iconst 1, 1) := by decide +kernel
theorem dX12_laysRow_101 : decode cX12_laysRow 101 = .ok (.goto 4, 3) := by decide +kernel
theorem dX12_laysRow_104 : decode cX12_laysRow 104 = .ok (.iconst 0, 1) := by decide +kernel
theorem dX12_laysRow_105 : decode cX12_laysRow 105 = .ok (.ireturn, 1) := by decide +kernel
theorem dX12_meets_0 : decode cX12_meets 0 = .ok (.aload_n 0, 1) := by decide +kernel
theorem dX12_meets_1 : decode cX12_meets 1 = .ok (.iconst 0, 1) := by decide +kernel
theorem dX12_meets_2 : decode cX12_meets 2 = .ok (.putfield 103, 3) := by decide +kernel
theorem dX12_meets_5 : decode cX12_meets 5 = .ok (.aload_n 0, 1) := by decide +kernel
theorem dX12_meets_6 : decode cX12_meets 6 = .ok (.iload_n 1, 1) := by decide +kernel
theorem dX12_meets_7 : decode cX12_meets 7 = .ok (.iload_n 2, 1) := by decide +kernel
theorem dX12_meets_8 : decode cX12_meets 8 = .ok (.invokevirtual 468, 3) := by decide +kernel
theorem dX12_meets_11 : decode cX12_meets 11 = .ok (.ifCond .ne 5, 3) := by decide +kernel
theorem dX12_meets_14 : decode cX12_meets 14 = .ok (.iconst (-1), 1) := by decide +kernel
theorem dX12_meets_15 : decode cX12_meets 15 = .ok (.ireturn, 1) := by decide +kernel
theorem dX12_meets_16 : decode cX12_meets 16 = .ok (.aload_n 0, 1) := by decide +kernel
theorem dX12_meets_17 : decode cX12_meets 17 = .ok (.getfield 55, 3) := by decide +kernel
theorem dX12_meets_20 : decode cX12_meets 20 = .ok (.aload_n 0, 1) := by decide +kernel
theorem dX12_meets_21 : decode cX12_meets 21 = .ok (.getfield 58, 3) := by decide +kernel
theorem dX12_meets_24 : decode cX12_meets 24 = .ok (.invokestatic 401, 3) := by decide +kernel
theorem dX12_meets_27 : decode cX12_meets 27 = .ok (.iconst 0, 1) := by decide +kernel
theorem dX12_meets_28 : decode cX12_meets 28 = .ok (.istore_n 3, 1) := by decide +kernel
theorem dX12_meets_29 : decode cX12_meets 29 = .ok (.iload_n 3, 1) := by decide +kernel
theorem dX12_meets_30 : decode cX12_meets 30 = .ok (.iload_n 2, 1) := by decide +kernel
theorem dX12_meets_31 : decode cX12_meets 31 = .ok (.if_icmp .ge 109, 3) := by decide +kernel
theorem dX12_meets_34 : decode cX12_meets 34 = .ok (.aload_n 0, 1) := by decide +kernel
theorem dX12_meets_35 : decode cX12_meets 35 = .ok (.aload_n 0, 1) := by decide +kernel
theorem dX12_meets_36 : decode cX12_meets 36 = .ok (.getfield 58, 3) := by decide +kernel
theorem dX12_meets_39 : decode cX12_meets 39 = .ok (.aload_n 0, 1) := by decide +kernel
theorem dX12_meets_40 : decode cX12_meets 40 = .ok (.getfield 97, 3) := by decide +kernel
theorem dX12_meets_43 : decode cX12_meets 43 = .ok (.iload_n 3, 1) := by decide +kernel
theorem dX12_meets_44 : decode cX12_meets 44 = .ok (.iaload, 1) := by decide +kernel
theorem dX12_meets_45 : decode cX12_meets 45 = .ok (.invokevirtual 353, 3) := by decide +kernel
theorem dX12_meets_48 : decode cX12_meets 48 = .ok (.ifCond .eq 92, 3) := by decide +kernel
theorem dX12_meets_51 : decode cX12_meets 51 = .ok (.aload_n 0, 1) := by decide +kernel
theorem dX12_meets_52 : decode cX12_meets 52 = .ok (.getfield 58, 3) := by decide +kernel
theorem dX12_meets_55 : decode cX12_meets 55 = .ok (.bipush 21, 2) := by decide +kernel
theorem dX12_meets_57 : decode cX12_meets 57 = .ok (.iaload, 1) := by decide +kernel
theorem dX12_meets_58 : decode cX12_meets 58 = .ok (.aload_n 0, 1) := by decide +kernel
theorem dX12_meets_59 : decode cX12_meets 59 = .ok (.aload_n 0, 1) := by decide +kernel
theorem dX12_meets_60 : decode cX12_meets 60 = .ok (.getfield 58, 3) := by decide +kernel
theorem dX12_meets_63 : decode cX12_meets 63 = .ok (.aload_n 0, 1) := by decide +kernel
theorem dX12_meets_64 : decode cX12_meets 64 = .ok (.getfield 97, 3) := by decide +kernel
theorem dX12_meets_67 : decode cX12_meets 67 = .ok (.iload_n 3, 1) := by decide +kernel
theorem dX12_meets_68 : decode cX12_meets 68 = .ok (.iaload, 1) := by decide +kernel
theorem dX12_meets_69 : decode cX12_meets 69 = .ok (.invokevirtual 328, 3) := by decide +kernel
theorem dX12_meets_72 : decode cX12_meets 72 = .ok (.iadd, 1) := by decide +kernel
theorem dX12_meets_73 : decode cX12_meets 73 = .ok (.istore 4, 2) := by decide +kernel
theorem dX12_meets_75 : decode cX12_meets 75 = .ok (.aload_n 0, 1) := by decide +kernel
theorem dX12_meets_76 : decode cX12_meets 76 = .ok (.aload_n 0, 1) := by decide +kernel
theorem dX12_meets_77 : decode cX12_meets 77 = .ok (.getfield 97, 3) := by decide +kernel
theorem dX12_meets_80 : decode cX12_meets 80 = .ok (.iload_n 3, 1) := by decide +kernel
theorem dX12_meets_81 : decode cX12_meets 81 = .ok (.iaload, 1) := by decide +kernel
theorem dX12_meets_82 : decode cX12_meets 82 = .ok (.invokevirtual 463, 3) := by decide +kernel
theorem dX12_meets_85 : decode cX12_meets 85 = .ok (.istore 5, 2) := by decide +kernel
theorem dX12_meets_87 : decode cX12_meets 87 = .ok (.iload 4, 2) := by decide +kernel
theorem dX12_meets_89 : decode cX12_meets 89 = .ok (.iload 5, 2) := by decide +kernel
theorem dX12_meets_91 : decode cX12_meets 91 = .ok (.iconst 2, 1) := by decide +kernel
theorem dX12_meets_92 : decode cX12_meets 92 = .ok (.iadd, 1) := by decide +kernel
theorem dX12_meets_93 : decode cX12_meets 93 = .ok (.if_icmp .ge 19, 3) := by decide +kernel
theorem dX12_meets_96 : decode cX12_meets 96 = .ok (.iload 5, 2) := by decide +kernel
theorem dX12_meets_98 : decode cX12_meets 98 = .ok (.iload 4, 2) := by decide +kernel
theorem dX12_meets_100 : decode cX12_meets 100 = .ok (.iconst 1, 1) := by decide +kernel
theorem dX12_meets_101 : decode cX12_meets 101 = .ok (.iadd, 1) := by decide +kernel
theorem dX12_meets_102 : decode cX12_meets 102 = .ok (.if_icmp .ge 10, 3) := by decide +kernel
theorem dX12_meets_105 : decode cX12_meets 105 = .ok (.aload_n 0, 1) := by decide +kernel
theorem dX12_meets_106 : decode cX12_meets 106 = .ok (.getfield 97, 3) := by decide +kernel
theorem dX12_meets_109 : decode cX12_meets 109 = .ok (.iload_n 3, 1) := by decide +kernel
theorem dX12_meets_110 : decode cX12_meets 110 = .ok (.iaload, 1) := by decide +kernel
theorem dX12_meets_111 : decode cX12_meets 111 = .ok (.ireturn, 1) := by decide +kernel
theorem dX12_meets_112 : decode cX12_meets 112 = .ok (.aload_n 0, 1) := by decide +kernel
theorem dX12_meets_113 : decode cX12_meets 113 = .ok (.aload_n 0, 1) := by decide +kernel
theorem dX12_meets_114 : decode cX12_meets 114 = .ok (.getfield 58, 3) := by decide +kernel
theorem dX12_meets_117 : decode cX12_meets 117 = .ok (.aload_n 0, 1) := by decide +kernel
theorem dX12_meets_118 : decode cX12_meets 118 = .ok (.getfield 97, 3) := by decide +kernel
theorem dX12_meets_121 : decode cX12_meets 121 = .ok (.iload_n 3, 1) := by decide +kernel
theorem dX12_meets_122 : decode cX12_meets 122 = .ok (.iaload, 1) := by decide +kernel
theorem dX12_meets_123 : decode cX12_meets 123 = .ok (.aload_n 0, 1) := by decide +kernel
theorem dX12_meets_124 : decode cX12_meets 124 = .ok (.getfield 37, 3) := by decide +kernel
theorem dX12_meets_127 : decode cX12_meets 127 = .ok (.iconst 2, 1) := by decide +kernel
theorem dX12_meets_128 : decode cX12_meets 128 = .ok (.iaload, 1) := by decide +kernel
theorem dX12_meets_129 : decode cX12_meets 129 = .ok (.invokevirtual 360, 3) := by decide +kernel
theorem dX12_meets_132 : decode cX12_meets 132 = .ok (.istore 6, 2) := by decide +kernel
theorem dX12_meets_134 : decode cX12_meets 134 = .ok (.iinc 3 1, 3) := by decide +kernel
theorem dX12_meets_137 : decode cX12_meets 137 = .ok (.goto (-108), 3) := by decide +kernel
theorem dX12_meets_140 : decode cX12_meets 140 = .ok (.iconst (-1), 1) := by decide +kernel
theorem dX12_meets_141 : decode cX12_meets 141 = .ok (.ireturn, 1) := by decide +kernel
theorem dX12_isGame_0 : decode cX12_isGame 0 = .ok (.aload_n 0, 1) := by decide +kernel
theorem dX12_isGame_1 : decode cX12_isGame 1 = .ok (.iload_n 1, 1) := by decide +kernel
theorem dX12_isGame_2 : decode cX12_isGame 2 = .ok (.invokevirtual 339, 3) := by decide +kernel
theorem dX12_isGame_5 : decode cX12_isGame 5 = .ok (.ifCond .eq 20, 3) := by decide +kernel
theorem dX12_isGame_8 : decode cX12_isGame 8 = .ok (.aload_n 0, 1) := by decide +kernel
theorem dX12_isGame_9 : decode cX12_isGame 9 = .ok (.iload_n 2, 1) := by decide +kernel
theorem dX12_isGame_10 : decode cX12_isGame 10 = .ok (.invokevirtual 339, 3) := by decide +kernel
theorem dX12_isGame_13 : decode cX12_isGame 13 = .ok (.ifCond .eq 12, 3) := by decide +kernel
theorem dX12_isGame_16 : decode cX12_isGame 16 = .ok (.iload_n 1, 1) := by decide +kernel
theorem dX12_isGame_17 : decode cX12_isGame 17 = .ok (.iload_n 2, 1) := by decide +kernel
theorem dX12_isGame_18 : decode cX12_isGame 18 = .ok (.if_icmp .eq 7, 3) := by decide +kernel
theorem dX12_isGame_21 : decode cX12_isGame 21 = .ok (.iconst 1, 1) := by decide +kernel
theorem dX12_isGame_22 : decode cX12_isGame 22 = .ok (.goto 4, 3) := by decide +kernel
theorem dX12_isGame_25 : decode cX12_isGame 25 = .ok (.iconst 0, 1) := by decide +kernel
theorem dX12_isGame_26 : decode cX12_isGame 26 = .ok (.ireturn, 1) := by decide +kernel
theorem dX12_isFirst_0 : decode cX12_isFirst 0 = .ok (.aload_n 0, 1) := by decide +kernel
theorem dX12_isFirst_1 : decode cX12_isFirst 1 = .ok (.iload_n 1, 1) := by decide +kernel
theorem dX12_isFirst_2 : decode cX12_isFirst 2 = .ok (.iconst 3, 1) := by decide +kernel
theorem dX12_isFirst_3 : decode cX12_isFirst 3 = .ok (.invokevirtual 305, 3) := by decide +kernel
theorem dX12_isFirst_6 : decode cX12_isFirst 6 = .ok (.iload_n 3, 1) := by decide +kernel
theorem dX12_isFirst_7 : decode cX12_isFirst 7 = .ok (.iadd, 1) := by decide +kernel
theorem dX12_isFirst_8 : decode cX12_isFirst 8 = .ok (.aload_n 0, 1) := by decide +kernel
theorem dX12_isFirst_9 : decode cX12_isFirst 9 = .ok (.iload_n 2, 1) := by decide +kernel
theorem dX12_isFirst_10 : decode cX12_isFirst 10 = .ok (.iconst 3, 1) := by decide +kernel
theorem dX12_isFirst_11 : decode cX12_isFirst 11 = .ok (.invokevirtual 305, 3) := by decide +kernel
theorem dX12_isFirst_14 : decode cX12_isFirst 14 = .ok (.isub, 1) := by decide +kernel
theorem dX12_isFirst_15 : decode cX12_isFirst 15 = .ok (.iload 4, 2) := by decide +kernel
theorem dX12_isFirst_17 : decode cX12_isFirst 17 = .ok (.isub, 1) := by decide +kernel
theorem dX12_isFirst_18 : decode cX12_isFirst 18 = .ok (.istore 5, 2) := by decide +kernel
theorem dX12_isFirst_20 : decode cX12_isFirst 20 = .ok (.iload 5, 2) := by decide +kernel
theorem dX12_isFirst_22 : decode cX12_isFirst 22 = .ok (.ifCond .eq 14, 3) := by decide +kernel
theorem dX12_isFirst_25 : decode cX12_isFirst 25 = .ok (.iload 5, 2) := by decide +kernel
theorem dX12_isFirst_27 : decode cX12_isFirst 27 = .ok (.ifCond .le 7, 3) := by decide +kernel
theorem dX12_isFirst_30 : decode cX12_isFirst 30 = .ok (.iconst 1, 1) := by decide +kernel
theorem dX12_isFirst_31 : decode cX12_isFirst 31 = .ok (.goto 4, 3) := by decide +kernel
theorem dX12_isFirst_34 : decode cX12_isFirst 34 = .ok (.iconst 0, 1) := by decide +kernel
theorem dX12_isFirst_35 : decode cX12_isFirst 35 = .ok (.ireturn, 1) := by decide +kernel
theorem dX12_isFirst_36 : decode cX12_isFirst 36 = .ok (.aload_n 0, 1) := by decide +kernel
theorem dX12_isFirst_37 : decode cX12_isFirst 37 = .ok (.aload_n 0, 1) := by decide +kernel
theorem dX12_isFirst_38 : decode cX12_isFirst 38 = .ok (.getfield 55, 3) := by decide +kernel
theorem dX12_isFirst_41 : decode cX12_isFirst 41 = .ok (.iload_n 2, 1) := by decide +kernel
theorem dX12_isFirst_42 : decode cX12_isFirst 42 = .ok (.invokevirtual 328, 3) := by decide +kernel
theorem dX12_isFirst_45 : decode cX12_isFirst 45 = .ok (.aload_n 0, 1) := by decide +kernel
theorem dX12_isFirst_46 : decode cX12_isFirst 46 = .ok (.aload_n 0, 1) := by decide +kernel
theorem dX12_isFirst_47 : decode cX12_isFirst 47 = .ok (.getfield 55, 3) := by decide +kernel
theorem dX12_isFirst_50 : decode cX12_isFirst 50 = .ok (.iload_n 1, 1) := by decide +kernel
theorem dX12_isFirst_51 : decode cX12_isFirst 51 = .ok (.invokevirtual 328, 3) := by decide +kernel
theorem dX12_isFirst_54 : decode cX12_isFirst 54 = .ok (.isub, 1) := by decide +kernel
theorem dX12_isFirst_55 : decode cX12_isFirst 55 = .ok (.istore 6, 2) := by decide +kernel
theorem dX12_isFirst_57 : decode cX12_isFirst 57 = .ok (.iload 6, 2) := by decide +kernel
theorem dX12_isFirst_59 : decode cX12_isFirst 59 = .ok (.ifCond .ne 16, 3) := by decide +kernel
theorem dX12_isFirst_62 : decode cX12_isFirst 62 = .ok (.iload_n 1, 1) := by decide +kernel
theorem dX12_isFirst_63 : decode cX12_isFirst 63 = .ok (.iload_n 2, 1) := by decide +kernel
theorem dX12_isFirst_64 : decode cX12_isFirst 64 = .ok (.if_icmp .ge 7, 3) := by decide +kernel
theorem dX12_isFirst_67 : decode cX12_isFirst 67 = .ok (.iconst 1, 1) := by decide +kernel
theorem dX12_isFirst_68 : decode cX12_isFirst 68 = .ok (.goto 17, 3) := by decide +kernel
theorem dX12_isFirst_71 : decode cX12_isFirst 71 = .ok (.iconst 0, 1) := by decide +kernel
theorem dX12_isFirst_72 : decode cX12_isFirst 72 = .ok (.goto 13, 3) := by decide +kernel
theorem dX12_isFirst_75 : decode cX12_isFirst 75 = .ok (.iload 6, 2) := by decide +kernel
theorem dX12_isFirst_77 : decode cX12_isFirst 77 = .ok (.ifCond .le 7, 3) := by decide +kernel
theorem dX12_isFirst_80 : decode cX12_isFirst 80 = .ok (.iconst 1, 1) := by decide +kernel
theorem dX12_isFirst_81 : decode cX12_isFirst 81 = .ok (.goto 4, 3) := by decide +kernel
theorem dX12_isFirst_84 : decode cX12_isFirst 84 = .ok (.iconst 0, 1) := by decide +kernel
theorem dX12_isFirst_85 : decode cX12_isFirst 85 = .ok (.ireturn, 1) := by decide +kernel
theorem dX12_gameOf_0 : decode cX12_gameOf 0 = .ok (.aload_n 0, 1) := by decide +kernel
theorem dX12_gameOf_1 : decode cX12_gameOf 1 = .ok (.iload_n 1, 1) := by decide +kernel
theorem dX12_gameOf_2 : decode cX12_gameOf 2 = .ok (.iload_n 2, 1) := by decide +kernel
theorem dX12_gameOf_3 : decode cX12_gameOf 3 = .ok (.iload_n 3, 1) := by decide +kernel
theorem dX12_gameOf_4 : decode cX12_gameOf 4 = .ok (.iload 4, 2) := by decide +kernel
theorem dX12_gameOf_6 : decode cX12_gameOf 6 = .ok (.invokevirtual 471, 3) := by decide +kernel
theorem dX12_gameOf_9 : decode cX12_gameOf 9 = .ok (.istore 6, 2) := by decide +kernel
theorem dX12_gameOf_11 : decode cX12_gameOf 11 = .ok (.iload 5, 2) := by decide +kernel
theorem dX12_gameOf_13 : decode cX12_gameOf 13 = .ok (.ifCond .ne 7, 3) := by decide +kernel
theorem dX12_gameOf_16 : decode cX12_gameOf 16 = .ok (.iload_n 1, 1) := by decide +kernel
theorem dX12_gameOf_17 : decode cX12_gameOf 17 = .ok (.goto 4, 3) := by decide +kernel
theorem dX12_gameOf_20 : decode cX12_gameOf 20 = .ok (.iload_n 2, 1) := by decide +kernel
theorem dX12_gameOf_21 : decode cX12_gameOf 21 = .ok (.istore 7, 2) := by decide +kernel
theorem dX12_gameOf_23 : decode cX12_gameOf 23 = .ok (.iload 5, 2) := by decide +kernel
theorem dX12_gameOf_25 : decode cX12_gameOf 25 = .ok (.ifCond .ne 7, 3) := by decide +kernel
theorem dX12_gameOf_28 : decode cX12_gameOf 28 = .ok (.iload_n 3, 1) := by decide +kernel
theorem dX12_gameOf_29 : decode cX12_gameOf 29 = .ok (.goto 5, 3) := by decide +kernel
theorem dX12_gameOf_32 : decode cX12_gameOf 32 = .ok (.iload 4, 2) := by decide +kernel
theorem dX12_gameOf_34 : decode cX12_gameOf 34 = .ok (.istore 8, 2) := by decide +kernel
theorem dX12_gameOf_36 : decode cX12_gameOf 36 = .ok (.iload 6, 2) := by decide +kernel
theorem dX12_gameOf_38 : decode cX12_gameOf 38 = .ok (.iload 5, 2) := by decide +kernel
theorem dX12_gameOf_40 : decode cX12_gameOf 40 = .ok (.ifCond .ne 7, 3) := by decide +kernel
theorem dX12_gameOf_43 : decode cX12_gameOf 43 = .ok (.iconst 1, 1) := by decide +kernel
theorem dX12_gameOf_44 : decode cX12_gameOf 44 = .ok (.goto 4, 3) := by decide +kernel
theorem dX12_gameOf_47 : decode cX12_gameOf 47 = .ok (.iconst 0, 1) := by decide +kernel
theorem dX12_gameOf_48 : decode cX12_gameOf 48 = .ok (.if_icmp .eq 7, 3) := by decide +kernel
theorem dX12_gameOf_51 : decode cX12_gameOf 51 = .ok (.iload 8, 2) := by decide +kernel
theorem dX12_gameOf_53 : decode cX12_gameOf 53 = .ok (.ineg, 1) := by decide +kernel
theorem dX12_gameOf_54 : decode cX12_gameOf 54 = .ok (.ireturn, 1) := by decide +kernel
theorem dX12_gameOf_55 : decode cX12_gameOf 55 = .ok (.bipush 8, 2) := by decide +kernel
theorem dX12_gameOf_57 : decode cX12_gameOf 57 = .ok (.aload_n 0, 1) := by decide +kernel
theorem dX12_gameOf_58 : decode cX12_gameOf 58 = .ok (.aload_n 0, 1) := by decide +kernel
theorem dX12_gameOf_59 : decode cX12_gameOf 59 = .ok (.getfield 55, 3) := by decide +kernel
theorem dX12_gameOf_62 : decode cX12_gameOf 62 = .ok (.iload 7, 2) := by decide +kernel
theorem dX12_gameOf_64 : decode cX12_gameOf 64 = .ok (.aload_n 0, 1) := by decide +kernel
theorem dX12_gameOf_65 : decode cX12_gameOf 65 = .ok (.iload 7, 2) := by decide +kernel
theorem dX12_gameOf_67 : decode cX12_gameOf 67 = .ok (.iconst 3, 1) := by decide +kernel
theorem dX12_gameOf_68 : decode cX12_gameOf 68 = .ok (.invokevirtual 305, 3) := by decide +kernel
theorem dX12_gameOf_71 : decode cX12_gameOf 71 = .ok (.iload 8, 2) := by decide +kernel
theorem dX12_gameOf_73 : decode cX12_gameOf 73 = .ok (.iadd, 1) := by decide +kernel
theorem dX12_gameOf_74 : decode cX12_gameOf 74 = .ok (.aload_n 0, 1) := by decide +kernel
theorem dX12_gameOf_75 : decode cX12_gameOf 75 = .ok (.getfield 37, 3) := by decide +kernel
theorem dX12_gameOf_78 : decode cX12_gameOf 78 = .ok (.iconst 2, 1) := by decide +kernel
theorem dX12_gameOf_79 : decode cX12_gameOf 79 = .ok (.iaload, 1) := by decide +kernel
theorem dX12_gameOf_80 : decode cX12_gameOf 80 = .ok (.invokevirtual 342, 3) := by decide +kernel
theorem dX12_gameOf_83 : decode cX12_gameOf 83 = .ok (.isub, 1) := by decide +kernel
theorem dX12_gameOf_84 : decode cX12_gameOf 84 = .ok (.iload 8, 2) := by decide +kernel
theorem dX12_gameOf_86 : decode cX12_gameOf 86 = .ok (.isub, 1) := by decide +kernel
theorem dX12_gameOf_87 : decode cX12_gameOf 87 = .ok (.ireturn, 1) := by decide +kernel
theorem dX12_game_0 : decode cX12_game 0 = .ok (.aload_n 0, 1) := by decide +kernel
theorem dX12_game_1 : decode cX12_game 1 = .ok (.iconst 0, 1) := by decide +kernel
theorem dX12_game_2 : decode cX12_game 2 = .ok (.putfield 103, 3) := by decide +kernel
theorem dX12_game_5 : decode cX12_game 5 = .ok (.aload_n 0, 1) := by decide +kernel
theorem dX12_game_6 : decode cX12_game 6 = .ok (.iload_n 1, 1) := by decide +kernel
theorem dX12_game_7 : decode cX12_game 7 = .ok (.iload_n 2, 1) := by decide +kernel
theorem dX12_game_8 : decode cX12_game 8 = .ok (.invokevirtual 475, 3) := by decide +kernel
theorem dX12_game_11 : decode cX12_game 11 = .ok (.ifCond .eq 53, 3) := by decide +kernel
theorem dX12_game_14 : decode cX12_game 14 = .ok (.iload_n 3, 1) := by decide +kernel
theorem dX12_game_15 : decode cX12_game 15 = .ok (.i2l, 1) := by decide +kernel
theorem dX12_game_16 : decode cX12_game 16 = .ok (.lconst 0, 1) := by decide +kernel
theorem dX12_game_17 : decode cX12_game 17 = .ok (.ldc2_w 478, 3) := by decide +kernel
theorem dX12_game_20 : decode cX12_game 20 = .ok (.invokestatic 224, 3) := by decide +kernel
theorem dX12_game_23 : decode cX12_game 23 = .ok (.ifCond .eq 41, 3) := by decide +kernel
theorem dX12_game_26 : decode cX12_game 26 = .ok (.iload 4, 2) := by decide +kernel
theorem dX12_game_28 : decode cX12_game 28 = .ok (.i2l, 1) := by decide +kernel
theorem dX12_game_29 : decode cX12_game 29 = .ok (.lconst 0, 1) := by decide +kernel
theorem dX12_game_30 : decode cX12_game 30 = .ok (.ldc2_w 478, 3) := by decide +kernel
theorem dX12_game_33 : decode cX12_game 33 = .ok (.invokestatic 224, 3) := by decide +kernel
theorem dX12_game_36 : decode cX12_game 36 = .ok (.ifCond .eq 28, 3) := by decide +kernel
theorem dX12_game_39 : decode cX12_game 39 = .ok (.iload 5, 2) := by decide +kernel
theorem dX12_game_41 : decode cX12_game 41 = .ok (.i2l, 1) := by decide +kernel
theorem dX12_game_42 : decode cX12_game 42 = .ok (.lconst 0, 1) := by decide +kernel
theorem dX12_game_43 : decode cX12_game 43 = .ok (.lconst 1, 1) := by decide +kernel
theorem dX12_game_44 : decode cX12_game 44 = .ok (.invokestatic 224, 3) := by decide +kernel
theorem dX12_game_47 : decode cX12_game 47 = .ok (.ifCond .eq 17, 3) := by decide +kernel
theorem dX12_game_50 : decode cX12_game 50 = .ok (.aload_n 0, 1) := by decide +kernel
theorem dX12_game_51 : decode cX12_game 51 = .ok (.iload_n 1, 1) := by decide +kernel
theorem dX12_game_52 : decode cX12_game 52 = .ok (.iload_n 2, 1) := by decide +kernel
theorem dX12_game_53 : decode cX12_game 53 = .ok (.iload_n 3, 1) := by decide +kernel
theorem dX12_game_54 : decode cX12_game 54 = .ok (.iload 4, 2) := by decide +kernel
theorem dX12_game_56 : decode cX12_game 56 = .ok (.iload 5, 2) := by decide +kernel
theorem dX12_game_58 : decode cX12_game 58 = .ok (.invokevirtual 480, 3) := by decide +kernel
theorem dX12_game_61 : decode cX12_game 61 = .ok (.goto 6, 3) := by decide +kernel
theorem dX12_game_64 : decode cX12_game 64 = .ok (.ldc_w 400, 3) := by decide +kernel
theorem dX12_game_67 : decode cX12_game 67 = .ok (.ireturn, 1) := by decide +kernel
theorem dX12_rests_0 : decode cX12_rests 0 = .ok (.aload_n 0, 1) := by decide +kernel
theorem dX12_rests_1 : decode cX12_rests 1 = .ok (.iconst 0, 1) := by decide +kernel
theorem dX12_rests_2 : decode cX12_rests 2 = .ok (.putfield 103, 3) := by decide +kernel
theorem dX12_rests_5 : decode cX12_rests 5 = .ok (.aload_n 0, 1) := by decide +kernel
theorem dX12_rests_6 : decode cX12_rests 6 = .ok (.iload_n 1, 1) := by decide +kernel
theorem dX12_rests_7 : decode cX12_rests 7 = .ok (.iload_n 2, 1) := by decide +kernel
theorem dX12_rests_8 : decode cX12_rests 8 = .ok (.invokevirtual 475, 3) := by decide +kernel
theorem dX12_rests_11 : decode cX12_rests 11 = .ok (.ifCond .eq 8, 3) := by decide +kernel
theorem dX12_rests_14 : decode cX12_rests 14 = .ok (.iload_n 3, 1) := by decide +kernel
theorem dX12_rests_15 : decode cX12_rests 15 = .ok (.iconst (-1), 1) := by decide +kernel
theorem dX12_rests_16 : decode cX12_rests 16 = .ok (.if_icmp .ge 5, 3) := by decide +kernel
theorem dX12_rests_19 : decode cX12_rests 19 = .ok (.iconst (-1), 1) := by decide +kernel
theorem dX12_rests_20 : decode cX12_rests 20 = .ok (.ireturn, 1) := by decide +kernel
theorem dX12_rests_21 : decode cX12_rests 21 = .ok (.iconst 0, 1) := by decide +kernel
theorem dX12_rests_22 : decode cX12_rests 22 = .ok (.istore 4, 2) := by decide +kernel
theorem dX12_rests_24 : decode cX12_rests 24 = .ok (.iconst 0, 1) := by decide +kernel
theorem dX12_rests_25 : decode cX12_rests 25 = .ok (.istore 5, 2) := by decide +kernel
theorem dX12_rests_27 : decode cX12_rests 27 = .ok (.iload 5, 2) := by decide +kernel
theorem dX12_rests_29 : decode cX12_rests 29 = .ok (.iconst 4, 1) := by decide +kernel
theorem dX12_rests_30 : decode cX12_rests 30 = .ok (.if_icmp .ge 130, 3) := by decide +kernel
theorem dX12_rests_33 : decode cX12_rests 33 = .ok (.iconst 0, 1) := by decide +kernel
theorem dX12_rests_34 : decode cX12_rests 34 = .ok (.istore 6, 2) := by decide +kernel
theorem dX12_rests_36 : decode cX12_rests 36 = .ok (.iload 6, 2) := by decide +kernel
theorem dX12_rests_38 : decode cX12_rests 38 = .ok (.iconst 4, 1) := by decide +kernel
theorem dX12_rests_39 : decode cX12_rests 39 = .ok (.if_icmp .ge 115, 3) := by decide +kernel
theorem dX12_rests_42 : decode cX12_rests 42 = .ok (.iconst 1, 1) := by decide +kernel
theorem dX12_rests_43 : decode cX12_rests 43 = .ok (.istore 7, 2) := by decide +kernel
theorem dX12_rests_45 : decode cX12_rests 45 = .ok (.iconst 0, 1) := by decide +kernel
theorem dX12_rests_46 : decode cX12_rests 46 = .ok (.istore 8, 2) := by decide +kernel
theorem dX12_rests_48 : decode cX12_rests 48 = .ok (.iload 8, 2) := by decide +kernel
theorem dX12_rests_50 : decode cX12_rests 50 = .ok (.iconst 4, 1) := by decide +kernel
theorem dX12_rests_51 : decode cX12_rests 51 = .ok (.if_icmp .ge 71, 3) := by decide +kernel
theorem dX12_rests_54 : decode cX12_rests 54 = .ok (.iload 7, 2) := by decide +kernel
theorem dX12_rests_56 : decode cX12_rests 56 = .ok (.ifCond .eq 57, 3) := by decide +kernel
theorem dX12_rests_59 : decode cX12_rests 59 = .ok (.aload_n 0, 1) := by decide +kernel
theorem dX12_rests_60 : decode cX12_rests 60 = .ok (.iload_n 1, 1) := by decide +kernel
theorem dX12_rests_61 : decode cX12_rests 61 = .ok (.iload_n 2, 1) := by decide +kernel
theorem dX12_rests_62 : decode cX12_rests 62 = .ok (.iload 8, 2) := by decide +kernel
theorem dX12_rests_64 : decode cX12_rests 64 = .ok (.iload 6, 2) := by decide +kernel
theorem dX12_rests_66 : decode cX12_rests 66 = .ok (.iconst 0, 1) := by decide +kernel
theorem dX12_rests_67 : decode cX12_rests 67 = .ok (.invokevirtual 480, 3) := by decide +kernel
theorem dX12_rests_70 : decode cX12_rests 70 = .ok (.aload_n 0, 1) := by decide +kernel
theorem dX12_rests_71 : decode cX12_rests 71 = .ok (.iload_n 1, 1) := by decide +kernel
theorem dX12_rests_72 : decode cX12_rests 72 = .ok (.iload_n 2, 1) := by decide +kernel
theorem dX12_rests_73 : decode cX12_rests 73 = .ok (.iload 5, 2) := by decide +kernel
theorem dX12_rests_75 : decode cX12_rests 75 = .ok (.iload 6, 2) := by decide +kernel
theorem dX12_rests_77 : decode cX12_rests 77 = .ok (.iconst 0, 1) := by decide +kernel
theorem dX12_rests_78 : decode cX12_rests 78 = .ok (.invokevirtual 480, 3) := by decide +kernel
theorem dX12_rests_81 : decode cX12_rests 81 = .ok (.if_icmp .gt 32, 3) := by decide +kernel
theorem dX12_rests_84 : decode cX12_rests 84 = .ok (.aload_n 0, 1) := by decide +kernel
theorem dX12_rests_85 : decode cX12_rests 85 = .ok (.iload_n 1, 1) := by decide +kernel
theorem dX12_rests_86 : decode cX12_rests 86 = .ok (.iload_n 2, 1) := by decide +kernel
theorem dX12_rests_87 : decode cX12_rests 87 = .ok (.iload 5, 2) := by decide +kernel
theorem dX12_rests_89 : decode cX12_rests 89 = .ok (.iload 8, 2) := by decide +kernel
theorem dX12_rests_91 : decode cX12_rests 91 = .ok (.iconst 1, 1) := by decide +kernel
theorem dX12_rests_92 : decode cX12_rests 92 = .ok (.invokevirtual 480, 3) := by decide +kernel
theorem dX12_rests_95 : decode cX12_rests 95 = .ok (.aload_n 0, 1) := by decide +kernel
theorem dX12_rests_96 : decode cX12_rests 96 = .ok (.iload_n 1, 1) := by decide +kernel
theorem dX12_rests_97 : decode cX12_rests 97 = .ok (.iload_n 2, 1) := by decide +kernel
theorem dX12_rests_98 : decode cX12_rests 98 = .ok (.iload 5, 2) := by decide +kernel
theorem dX12_rests_100 : decode cX12_rests 100 = .ok (.iload 6, 2) := by decide +kernel
theorem dX12_rests_102 : decode cX12_rests 102 = .ok (.iconst 1, 1) := by decide +kernel
theorem dX12_rests_103 : decode cX12_rests 103 = .ok (.invokevirtual 480, 3) := by decide +kernel
theorem dX12_rests_106 : decode cX12_rests 106 = .ok (.if_icmp .gt 7, 3) := by decide +kernel
theorem dX12_rests_109 : decode cX12_rests 109 = .ok (.iconst 1, 1) := by decide +kernel
theorem dX12_rests_110 : decode cX12_rests 110 = .ok (.goto 4, 3) := by decide +kernel
theorem dX12_rests_113 : decode cX12_rests 113 = .ok (.iconst 0, 1) := by decide +kernel
theorem dX12_rests_114 : decode cX12_rests 114 = .ok (.istore 7, 2) := by decide +kernel
theorem dX12_rests_116 : decode cX12_rests 116 = .ok (.iinc 8 1, 3) := by decide +kernel
theorem dX12_rests_119 : decode cX12_rests 119 = .ok (.goto (-71), 3) := by decide +kernel
theorem dX12_rests_122 : decode cX12_rests 122 = .ok (.iload 7, 2) := by decide +kernel
theorem dX12_rests_124 : decode cX12_rests 124 = .ok (.ifCond .ne 6, 3) := by decide +kernel
theorem dX12_rests_127 : decode cX12_rests 127 = .ok (.goto 21, 3) := by decide +kernel
theorem dX12_rests_130 : decode cX12_rests 130 = .ok (.iload 4, 2) := by decide +kernel
theorem dX12_rests_132 : decode cX12_rests 132 = .ok (.iload_n 3, 1) := by decide +kernel
theorem dX12_rests_133 : decode cX12_rests 133 = .ok (.if_icmp .ne 12, 3) := by decide +kernel
theorem dX12_rests_136 : decode cX12_rests 136 = .ok (.bipush 10, 2) := by decide +kernel
theorem dX12_rests_138 : decode cX12_rests 138 = .ok (.iload 5, 2) := by decide +kernel
theorem dX12_rests_140 : decode cX12_rests 140 = .ok (.imul, 1) := by decide +kernel
theorem dX12_rests_141 : decode cX12_rests 141 = .ok (.iload 6, 2) := by decide +kernel
theorem dX12_rests_143 : decode cX12_rests 143 = .ok (.iadd, 1) := by decide +kernel
theorem dX12_rests_144 : decode cX12_rests 144 = .ok (.ireturn, 1) := by decide +kernel
theorem dX12_rests_145 : decode cX12_rests 145 = .ok (.iinc 4 1, 3) := by decide +kernel
theorem dX12_rests_148 : decode cX12_rests 148 = .ok (.iinc 6 1, 3) := by decide +kernel
theorem dX12_rests_151 : decode cX12_rests 151 = .ok (.goto (-115), 3) := by decide +kernel
theorem dX12_rests_154 : decode cX12_rests 154 = .ok (.iinc 5 1, 3) := by decide +kernel
theorem dX12_rests_157 : decode cX12_rests 157 = .ok (.goto (-130), 3) := by decide +kernel
theorem dX12_rests_160 : decode cX12_rests 160 = .ok (.iload_n 3, 1) := by decide +kernel
theorem dX12_rests_161 : decode cX12_rests 161 = .ok (.iconst (-1), 1) := by decide +kernel
theorem dX12_rests_162 : decode cX12_rests 162 = .ok (.if_icmp .ne 8, 3) := by decide +kernel
theorem dX12_rests_165 : decode cX12_rests 165 = .ok (.iload 4, 2) := by decide +kernel
theorem dX12_rests_167 : decode cX12_rests 167 = .ok (.goto 4, 3) := by decide +kernel
theorem dX12_rests_170 : decode cX12_rests 170 = .ok (.iconst (-1), 1) := by decide +kernel
theorem dX12_rests_171 : decode cX12_rests 171 = .ok (.ireturn, 1) := by decide +kernel
theorem dX12_oddsFrom_0 : decode cX12_oddsFrom 0 = .ok (.iload_n 1, 1) := by decide +kernel
theorem dX12_oddsFrom_1 : decode cX12_oddsFrom 1 = .ok (.iload_n 2, 1) := by decide +kernel
theorem dX12_oddsFrom_2 : decode cX12_oddsFrom 2 = .ok (.if_icmp .ne 6, 3) := by decide +kernel
theorem dX12_oddsFrom_5 : decode cX12_oddsFrom 5 = .ok (.iload 7, 2) := by decide +kernel
theorem dX12_oddsFrom_7 : decode cX12_oddsFrom 7 = .ok (.ireturn, 1) := by decide +kernel
theorem dX12_oddsFrom_8 : decode cX12_oddsFrom 8 = .ok (.aload_n 0, 1) := by decide +kernel
theorem dX12_oddsFrom_9 : decode cX12_oddsFrom 9 = .ok (.getfield 97, 3) := by decide +kernel
theorem dX12_oddsFrom_12 : decode cX12_oddsFrom 12 = .ok (.iload_n 1, 1) := by decide +kernel
theorem dX12_oddsFrom_13 : decode cX12_oddsFrom 13 = .ok (.iaload, 1) := by decide +kernel
theorem dX12_oddsFrom_14 : decode cX12_oddsFrom 14 = .ok (.istore 8, 2) := by decide +kernel
theorem dX12_oddsFrom_16 : decode cX12_oddsFrom 16 = .ok (.aload_n 0, 1) := by decide +kernel
theorem dX12_oddsFrom_17 : decode cX12_oddsFrom 17 = .ok (.iload_n 3, 1) := by decide +kernel
theorem dX12_oddsFrom_18 : decode cX12_oddsFrom 18 = .ok (.iload 8, 2) := by decide +kernel
theorem dX12_oddsFrom_20 : decode cX12_oddsFrom 20 = .ok (.invokevirtual 315, 3) := by decide +kernel
theorem dX12_oddsFrom_23 : decode cX12_oddsFrom 23 = .ok (.istore 9, 2) := by decide +kernel
theorem dX12_oddsFrom_25 : decode cX12_oddsFrom 25 = .ok (.iload_n 3, 1) := by decide +kernel
theorem dX12_oddsFrom_26 : decode cX12_oddsFrom 26 = .ok (.iload 8, 2) := by decide +kernel
theorem dX12_oddsFrom_28 : decode cX12_oddsFrom 28 = .ok (.if_icmp .eq 17, 3) := by decide +kernel
theorem dX12_oddsFrom_31 : decode cX12_oddsFrom 31 = .ok (.iload 5, 2) := by decide +kernel
theorem dX12_oddsFrom_33 : decode cX12_oddsFrom 33 = .ok (.iload 9, 2) := by decide +kernel
theorem dX12_oddsFrom_35 : decode cX12_oddsFrom 35 = .ok (.iadd, 1) := by decide +kernel
theorem dX12_oddsFrom_36 : decode cX12_oddsFrom 36 = .ok (.aload_n 0, 1) := by decide +kernel
theorem dX12_oddsFrom_37 : decode cX12_oddsFrom 37 = .ok (.getfield 37, 3) := by decide +kernel
theorem dX12_oddsFrom_40 : decode cX12_oddsFrom 40 = .ok (.iconst 0, 1) := by decide +kernel
theorem dX12_oddsFrom_41 : decode cX12_oddsFrom 41 = .ok (.iaload, 1) := by decide +kernel
theorem dX12_oddsFrom_42 : decode cX12_oddsFrom 42 = .ok (.if_icmp .le 5, 3) := by decide +kernel
theorem dX12_oddsFrom_45 : decode cX12_oddsFrom 45 = .ok (.iconst 0, 1) := by decide +kernel
theorem dX12_oddsFrom_46 : decode cX12_oddsFrom 46 = .ok (.ireturn, 1) := by decide +kernel
theorem dX12_oddsFrom_47 : decode cX12_oddsFrom 47 = .ok (.iload 7, 2) := by decide +kernel
theorem dX12_oddsFrom_49 : decode cX12_oddsFrom 49 = .ok (.i2l, 1) := by decide +kernel
theorem dX12_oddsFrom_50 : decode cX12_oddsFrom 50 = .ok (.iload 6, 2) := by decide +kernel
theorem dX12_oddsFrom_52 : decode cX12_oddsFrom 52 = .ok (.i2l, 1) := by decide +kernel
theorem dX12_oddsFrom_53 : decode cX12_oddsFrom 53 = .ok (.lmul, 1) := by decide +kernel
theorem dX12_oddsFrom_54 : decode cX12_oddsFrom 54 = .ok (.ldc2_w 484, 3) := by decide +kernel
theorem dX12_oddsFrom_57 : decode cX12_oddsFrom 57 = .ok (.ldiv, 1) := by decide +kernel
theorem dX12_oddsFrom_58 : decode cX12_oddsFrom 58 = .ok (.l2i, 1) := by decide +kernel
theorem dX12_oddsFrom_59 : decode cX12_oddsFrom 59 = .ok (.istore 10, 2) := by decide +kernel
theorem dX12_oddsFrom_61 : decode cX12_oddsFrom 61 = .ok (.iconst 0, 1) := by decide +kernel
theorem dX12_oddsFrom_62 : decode cX12_oddsFrom 62 = .ok (.istore 11, 2) := by decide +kernel
theorem dX12_oddsFrom_64 : decode cX12_oddsFrom 64 = .ok (.iload 4, 2) := by decide +kernel
theorem dX12_oddsFrom_66 : decode cX12_oddsFrom 66 = .ok (.iload 9, 2) := by decide +kernel
theorem dX12_oddsFrom_68 : decode cX12_oddsFrom 68 = .ok (.iadd, 1) := by decide +kernel
theorem dX12_oddsFrom_69 : decode cX12_oddsFrom 69 = .ok (.iconst 1, 1) := by decide +kernel
theorem dX12_oddsFrom_70 : decode cX12_oddsFrom 70 = .ok (.iadd, 1) := by decide +kernel
theorem dX12_oddsFrom_71 : decode cX12_oddsFrom 71 = .ok (.aload_n 0, 1) := by decide +kernel
theorem dX12_oddsFrom_72 : decode cX12_oddsFrom 72 = .ok (.getfield 37, 3) := by decide +kernel
theorem dX12_oddsFrom_75 : decode cX12_oddsFrom 75 = .ok (.iconst 1, 1) := by decide +kernel
theorem dX12_oddsFrom_76 : decode cX12_oddsFrom 76 = .ok (.iaload, 1) := by decide +kernel
theorem dX12_oddsFrom_77 : decode cX12_oddsFrom 77 = .ok (.if_icmp .gt 37, 3) := by decide +kernel
theorem dX12_oddsFrom_80 : decode cX12_oddsFrom 80 = .ok (.iload 11, 2) := by decide +kernel
theorem dX12_oddsFrom_82 : decode cX12_oddsFrom 82 = .ok (.aload_n 0, 1) := by decide +kernel
theorem dX12_oddsFrom_83 : decode cX12_oddsFrom 83 = .ok (.iload_n 1, 1) := by decide +kernel
theorem dX12_oddsFrom_84 : decode cX12_oddsFrom 84 = .ok (.iconst 1, 1) := by decide +kernel
theorem dX12_oddsFrom_85 : decode cX12_oddsFrom 85 = .ok (.iadd, 1) := by decide +kernel
theorem dX12_oddsFrom_86 : decode cX12_oddsFrom 86 = .ok (.iload_n 2, 1) := by decide +kernel
theorem dX12_oddsFrom_87 : decode cX12_oddsFrom 87 = .ok (.iload 8, 2) := by decide +kernel
theorem dX12_oddsFrom_89 : decode cX12_oddsFrom 89 = .ok (.iload 4, 2) := by decide +kernel
theorem dX12_oddsFrom_91 : decode cX12_oddsFrom 91 = .ok (.iload 9, 2) := by decide +kernel
theorem dX12_oddsFrom_93 : decode cX12_oddsFrom 93 = .ok (.iadd, 1) := by decide +kernel
theorem dX12_oddsFrom_94 : decode cX12_oddsFrom 94 = .ok (.iconst 1, 1) := by decide +kernel
theorem dX12_oddsFrom_95 : decode cX12_oddsFrom 95 = .ok (.iadd, 1) := by decide +kernel
theorem dX12_oddsFrom_96 : decode cX12_oddsFrom 96 = .ok (.iload 5, 2) := by decide +kernel
theorem dX12_oddsFrom_98 : decode cX12_oddsFrom 98 = .ok (.iload 9, 2) := by decide +kernel
theorem dX12_oddsFrom_100 : decode cX12_oddsFrom 100 = .ok (.iadd, 1) := by decide +kernel
theorem dX12_oddsFrom_101 : decode cX12_oddsFrom 101 = .ok (.iload 6, 2) := by decide +kernel
theorem dX12_oddsFrom_103 : decode cX12_oddsFrom 103 = .ok (.iload 7, 2) := by decide +kernel
theorem dX12_oddsFrom_105 : decode cX12_oddsFrom 105 = .ok (.iload 10, 2) := by decide +kernel
theorem dX12_oddsFrom_107 : decode cX12_oddsFrom 107 = .ok (.isub, 1) := by decide +kernel
theorem dX12_oddsFrom_108 : decode cX12_oddsFrom 108 = .ok (.invokevirtual 486, 3) := by decide +kernel
theorem dX12_oddsFrom_111 : decode cX12_oddsFrom 111 = .ok (.iadd, 1) := by decide +kernel
theorem dX12_oddsFrom_112 : decode cX12_oddsFrom 112 = .ok (.istore 11, 2) := by decide +kernel
theorem dX12_oddsFrom_114 : decode cX12_oddsFrom 114 = .ok (.iload 4, 2) := by decide +kernel
theorem dX12_oddsFrom_116 : decode cX12_oddsFrom 116 = .ok (.iload 9, 2) := by decide +kernel
theorem dX12_oddsFrom_118 : decode cX12_oddsFrom 118 = .ok (.iadd, 1) := by decide +kernel
theorem dX12_oddsFrom_119 : decode cX12_oddsFrom 119 = .ok (.iconst 2, 1) := by decide +kernel
theorem dX12_oddsFrom_120 : decode cX12_oddsFrom 120 = .ok (.iadd, 1) := by decide +kernel
theorem dX12_oddsFrom_121 : decode cX12_oddsFrom 121 = .ok (.aload_n 0, 1) := by decide +kernel
theorem dX12_oddsFrom_122 : decode cX12_oddsFrom 122 = .ok (.getfield 37, 3) := by decide +kernel
theorem dX12_oddsFrom_125 : decode cX12_oddsFrom 125 = .ok (.iconst 1, 1) := by decide +kernel
theorem dX12_oddsFrom_126 : decode cX12_oddsFrom 126 = .ok (.iaload, 1) := by decide +kernel
theorem dX12_oddsFrom_127 : decode cX12_oddsFrom 127 = .ok (.if_icmp .gt 34, 3) := by decide +kernel
theorem dX12_oddsFrom_130 : decode cX12_oddsFrom 130 = .ok (.iload 11, 2) := by decide +kernel
theorem dX12_oddsFrom_132 : decode cX12_oddsFrom 132 = .ok (.aload_n 0, 1) := by decide +kernel
theorem dX12_oddsFrom_133 : decode cX12_oddsFrom 133 = .ok (.iload_n 1, 1) := by decide +kernel
theorem dX12_oddsFrom_134 : decode cX12_oddsFrom 134 = .ok (.iconst 1, 1) := by decide +kernel
theorem dX12_oddsFrom_135 : decode cX12_oddsFrom 135 = .ok (.iadd, 1) := by decide +kernel
theorem dX12_oddsFrom_136 : decode cX12_oddsFrom 136 = .ok (.iload_n 2, 1) := by decide +kernel
theorem dX12_oddsFrom_137 : decode cX12_oddsFrom 137 = .ok (.iload 8, 2) := by decide +kernel
theorem dX12_oddsFrom_139 : decode cX12_oddsFrom 139 = .ok (.iload 4, 2) := by decide +kernel
theorem dX12_oddsFrom_141 : decode cX12_oddsFrom 141 = .ok (.iload 9, 2) := by decide +kernel
theorem dX12_oddsFrom_143 : decode cX12_oddsFrom 143 = .ok (.iadd, 1) := by decide +kernel
theorem dX12_oddsFrom_144 : decode cX12_oddsFrom 144 = .ok (.iconst 2, 1) := by decide +kernel
theorem dX12_oddsFrom_145 : decode cX12_oddsFrom 145 = .ok (.iadd, 1) := by decide +kernel
theorem dX12_oddsFrom_146 : decode cX12_oddsFrom 146 = .ok (.iload 5, 2) := by decide +kernel
theorem dX12_oddsFrom_148 : decode cX12_oddsFrom 148 = .ok (.iload 9, 2) := by decide +kernel
theorem dX12_oddsFrom_150 : decode cX12_oddsFrom 150 = .ok (.iadd, 1) := by decide +kernel
theorem dX12_oddsFrom_151 : decode cX12_oddsFrom 151 = .ok (.iload 6, 2) := by decide +kernel
theorem dX12_oddsFrom_153 : decode cX12_oddsFrom 153 = .ok (.iload 10, 2) := by decide +kernel
theorem dX12_oddsFrom_155 : decode cX12_oddsFrom 155 = .ok (.invokevirtual 486, 3) := by decide +kernel
theorem dX12_oddsFrom_158 : decode cX12_oddsFrom 158 = .ok (.iadd, 1) := by decide +kernel
theorem dX12_oddsFrom_159 : decode cX12_oddsFrom 159 = .ok (.istore 11, 2) := by decide +kernel
theorem dX12_oddsFrom_161 : decode cX12_oddsFrom 161 = .ok (.iload 11, 2) := by decide +kernel
theorem dX12_oddsFrom_163 : decode cX12_oddsFrom 163 = .ok (.ireturn, 1) := by decide +kernel
theorem dX12_odds_0 : decode cX12_odds 0 = .ok (.aload_n 0, 1) := by decide +kernel
theorem dX12_odds_1 : decode cX12_odds 1 = .ok (.iconst 0, 1) := by decide +kernel
theorem dX12_odds_2 : decode cX12_odds 2 = .ok (.putfield 103, 3) := by decide +kernel
theorem dX12_odds_5 : decode cX12_odds 5 = .ok (.aload_n 0, 1) := by decide +kernel
theorem dX12_odds_6 : decode cX12_odds 6 = .ok (.iload_n 1, 1) := by decide +kernel
theorem dX12_odds_7 : decode cX12_odds 7 = .ok (.iload_n 2, 1) := by decide +kernel
theorem dX12_odds_8 : decode cX12_odds 8 = .ok (.invokevirtual 468, 3) := by decide +kernel
theorem dX12_odds_11 : decode cX12_odds 11 = .ok (.ifCond .eq 49, 3) := by decide +kernel
theorem dX12_odds_14 : decode cX12_odds 14 = .ok (.iload_n 3, 1) := by decide +kernel
theorem dX12_odds_15 : decode cX12_odds 15 = .ok (.i2l, 1) := by decide +kernel
theorem dX12_odds_16 : decode cX12_odds 16 = .ok (.lconst 0, 1) := by decide +kernel
theorem dX12_odds_17 : decode cX12_odds 17 = .ok (.ldc2_w 484, 3) := by decide +kernel
theorem dX12_odds_20 : decode cX12_odds 20 = .ok (.invokestatic 224, 3) := by decide +kernel
theorem dX12_odds_23 : decode cX12_odds 23 = .ok (.ifCond .eq 37, 3) := by decide +kernel
theorem dX12_odds_26 : decode cX12_odds 26 = .ok (.aload_n 0, 1) := by decide +kernel
theorem dX12_odds_27 : decode cX12_odds 27 = .ok (.iconst 0, 1) := by decide +kernel
theorem dX12_odds_28 : decode cX12_odds 28 = .ok (.iload_n 2, 1) := by decide +kernel
theorem dX12_odds_29 : decode cX12_odds 29 = .ok (.aload_n 0, 1) := by decide +kernel
theorem dX12_odds_30 : decode cX12_odds 30 = .ok (.getfield 55, 3) := by decide +kernel
theorem dX12_odds_33 : decode cX12_odds 33 = .ok (.invokestatic 311, 3) := by decide +kernel
theorem dX12_odds_36 : decode cX12_odds 36 = .ok (.aload_n 0, 1) := by decide +kernel
theorem dX12_odds_37 : decode cX12_odds 37 = .ok (.getfield 55, 3) := by decide +kernel
theorem dX12_odds_40 : decode cX12_odds 40 = .ok (.bipush 21, 2) := by decide +kernel
theorem dX12_odds_42 : decode cX12_odds 42 = .ok (.iaload, 1) := by decide +kernel
theorem dX12_odds_43 : decode cX12_odds 43 = .ok (.aload_n 0, 1) := by decide +kernel
theorem dX12_odds_44 : decode cX12_odds 44 = .ok (.getfield 55, 3) := by decide +kernel
theorem dX12_odds_47 : decode cX12_odds 47 = .ok (.bipush 22, 2) := by decide +kernel
theorem dX12_odds_49 : decode cX12_odds 49 = .ok (.iaload, 1) := by decide +kernel
theorem dX12_odds_50 : decode cX12_odds 50 = .ok (.iload_n 3, 1) := by decide +kernel
theorem dX12_odds_51 : decode cX12_odds 51 = .ok (.ldc_w 490, 3) := by decide +kernel
theorem dX12_odds_54 : decode cX12_odds 54 = .ok (.invokevirtual 486, 3) := by decide +kernel
theorem dX12_odds_57 : decode cX12_odds 57 = .ok (.goto 4, 3) := by decide +kernel
theorem dX12_odds_60 : decode cX12_odds 60 = .ok (.iconst (-1), 1) := by decide +kernel
theorem dX12_odds_61 : decode cX12_odds 61 = .ok (.ireturn, 1) := by decide +kernel
theorem dX12_cost_0 : decode cX12_cost 0 = .ok (.aload_n 0, 1) := by decide +kernel
theorem dX12_cost_1 : decode cX12_cost 1 = .ok (.iconst 0, 1) := by decide +kernel
theorem dX12_cost_2 : decode cX12_cost 2 = .ok (.putfield 103, 3) := by decide +kernel
theorem dX12_cost_5 : decode cX12_cost 5 = .ok (.aload_n 0, 1) := by decide +kernel
theorem dX12_cost_6 : decode cX12_cost 6 = .ok (.iload_n 1, 1) := by decide +kernel
theorem dX12_cost_7 : decode cX12_cost 7 = .ok (.invokevirtual 339, 3) := by decide +kernel
theorem dX12_cost_10 : decode cX12_cost 10 = .ok (.ifCond .eq 22, 3) := by decide +kernel
theorem dX12_cost_13 : decode cX12_cost 13 = .ok (.aload_n 0, 1) := by decide +kernel
theorem dX12_cost_14 : decode cX12_cost 14 = .ok (.aload_n 0, 1) := by decide +kernel
theorem dX12_cost_15 : decode cX12_cost 15 = .ok (.getfield 55, 3) := by decide +kernel
theorem dX12_cost_18 : decode cX12_cost 18 = .ok (.iload_n 1, 1) := by decide +kernel
theorem dX12_cost_19 : decode cX12_cost 19 = .ok (.invokevirtual 328, 3) := by decide +kernel
theorem dX12_cost_22 : decode cX12_cost 22 = .ok (.aload_n 0, 1) := by decide +kernel
theorem dX12_cost_23 : decode cX12_cost 23 = .ok (.iconst (-1), 1) := by decide +kernel
theorem dX12_cost_24 : decode cX12_cost 24 = .ok (.iload_n 1, 1) := by decide +kernel
theorem dX12_cost_25 : decode cX12_cost 25 = .ok (.invokevirtual 315, 3) := by decide +kernel
theorem dX12_cost_28 : decode cX12_cost 28 = .ok (.iadd, 1) := by decide +kernel
theorem dX12_cost_29 : decode cX12_cost 29 = .ok (.goto 4, 3) := by decide +kernel
theorem dX12_cost_32 : decode cX12_cost 32 = .ok (.iconst (-1), 1) := by decide +kernel
theorem dX12_cost_33 : decode cX12_cost 33 = .ok (.ireturn, 1) := by decide +kernel
theorem dX12_valueOf_0 : decode cX12_valueOf 0 = .ok (.iload_n 1, 1) := by decide +kernel
theorem dX12_valueOf_1 : decode cX12_valueOf 1 = .ok (.tableswitch 78 2 5 #[31, 53, 64, 71], 31) := by decide +kernel
theorem dX12_valueOf_32 : decode cX12_valueOf 32 = .ok (.aload_n 0, 1) := by decide +kernel
theorem dX12_valueOf_33 : decode cX12_valueOf 33 = .ok (.getfield 55, 3) := by decide +kernel
theorem dX12_valueOf_36 : decode cX12_valueOf 36 = .ok (.iconst 3, 1) := by decide +kernel
theorem dX12_valueOf_37 : decode cX12_valueOf 37 = .ok (.iload_n 2, 1) := by decide +kernel
theorem dX12_valueOf_38 : decode cX12_valueOf 38 = .ok (.imul, 1) := by decide +kernel
theorem dX12_valueOf_39 : decode cX12_valueOf 39 = .ok (.iconst 1, 1) := by decide +kernel
theorem dX12_valueOf_40 : decode cX12_valueOf 40 = .ok (.iadd, 1) := by decide +kernel
theorem dX12_valueOf_41 : decode cX12_valueOf 41 = .ok (.iaload, 1) := by decide +kernel
theorem dX12_valueOf_42 : decode cX12_valueOf 42 = .ok (.aload_n 0, 1) := by decide +kernel
theorem dX12_valueOf_43 : decode cX12_valueOf 43 = .ok (.getfield 55, 3) := by decide +kernel
theorem dX12_valueOf_46 : decode cX12_valueOf 46 = .ok (.iconst 3, 1) := by decide +kernel
theorem dX12_valueOf_47 : decode cX12_valueOf 47 = .ok (.iload_n 2, 1) := by decide +kernel
theorem dX12_valueOf_48 : decode cX12_valueOf 48 = .ok (.imul, 1) := by decide +kernel
theorem dX12_valueOf_49 : decode cX12_valueOf 49 = .ok (.iconst 0, 1) := by decide +kernel
theorem dX12_valueOf_50 : decode cX12_valueOf 50 = .ok (.iadd, 1) := by decide +kernel
theorem dX12_valueOf_51 : decode cX12_valueOf 51 = .ok (.iaload, 1) := by decide +kernel
theorem dX12_valueOf_52 : decode cX12_valueOf 52 = .ok (.isub, 1) := by decide +kernel
theorem dX12_valueOf_53 : decode cX12_valueOf 53 = .ok (.ireturn, 1) := by decide +kernel
theorem dX12_valueOf_54 : decode cX12_valueOf 54 = .ok (.aload_n 0, 1) := by decide +kernel
theorem dX12_valueOf_55 : decode cX12_valueOf 55 = .ok (.getfield 55, 3) := by decide +kernel
theorem dX12_valueOf_58 : decode cX12_valueOf 58 = .ok (.iconst 3, 1) := by decide +kernel
theorem dX12_valueOf_59 : decode cX12_valueOf 59 = .ok (.iload_n 2, 1) := by decide +kernel
theorem dX12_valueOf_60 : decode cX12_valueOf 60 = .ok (.imul, 1) := by decide +kernel
theorem dX12_valueOf_61 : decode cX12_valueOf 61 = .ok (.iconst 0, 1) := by decide +kernel
theorem dX12_valueOf_62 : decode cX12_valueOf 62 = .ok (.iadd, 1) := by decide +kernel
theorem dX12_valueOf_63 : decode cX12_valueOf 63 = .ok (.iaload, 1) := by decide +kernel
theorem dX12_valueOf_64 : decode cX12_valueOf 64 = .ok (.ireturn, 1) := by decide +kernel
theorem dX12_valueOf_65 : decode cX12_valueOf 65 = .ok (.aload_n 0, 1) := by decide +kernel
theorem dX12_valueOf_66 : decode cX12_valueOf 66 = .ok (.iload_n 2, 1) := by decide +kernel
theorem dX12_valueOf_67 : decode cX12_valueOf 67 = .ok (.iconst 3, 1) := by decide +kernel
theorem dX12_valueOf_68 : decode cX12_valueOf 68 = .ok (.invokevirtual 305, 3) := by decide +kernel
theorem dX12_valueOf_71 : decode cX12_valueOf 71 = .ok (.ireturn, 1) := by decide +kernel
theorem dX12_valueOf_72 : decode cX12_valueOf 72 = .ok (.aload_n 0, 1) := by decide +kernel
theorem dX12_valueOf_73 : decode cX12_valueOf 73 = .ok (.iconst (-1), 1) := by decide +kernel
theorem dX12_valueOf_74 : decode cX12_valueOf 74 = .ok (.iload_n 2, 1) := by decide +kernel
theorem dX12_valueOf_75 : decode cX12_valueOf 75 = .ok (.invokevirtual 315, 3) := by decide +kernel
theorem dX12_valueOf_78 : decode cX12_valueOf 78 = .ok (.ireturn, 1) := by decide +kernel
theorem dX12_valueOf_79 : decode cX12_valueOf 79 = .ok (.aload_n 0, 1) := by decide +kernel
theorem dX12_valueOf_80 : decode cX12_valueOf 80 = .ok (.aload_n 0, 1) := by decide +kernel
theorem dX12_valueOf_81 : decode cX12_valueOf 81 = .ok (.getfield 55, 3) := by decide +kernel
theorem dX12_valueOf_84 : decode cX12_valueOf 84 = .ok (.iload_n 2, 1) := by decide +kernel
theorem dX12_valueOf_85 : decode cX12_valueOf 85 = .ok (.invokevirtual 328, 3) := by decide +kernel
theorem dX12_valueOf_88 : decode cX12_valueOf 88 = .ok (.ineg, 1) := by decide +kernel
theorem dX12_valueOf_89 : decode cX12_valueOf 89 = .ok (.ireturn, 1) := by decide +kernel
theorem dX12_greatest_0 : decode cX12_greatest 0 = .ok (.iconst (-1), 1) := by decide +kernel
theorem dX12_greatest_1 : decode cX12_greatest 1 = .ok (.istore_n 2, 1) := by decide +kernel
theorem dX12_greatest_2 : decode cX12_greatest 2 = .ok (.iconst 0, 1) := by decide +kernel
theorem dX12_greatest_3 : decode cX12_greatest 3 = .ok (.istore_n 3, 1) := by decide +kernel
theorem dX12_greatest_4 : decode cX12_greatest 4 = .ok (.iload_n 3, 1) := by decide +kernel
theorem dX12_greatest_5 : decode cX12_greatest 5 = .ok (.aload_n 0, 1) := by decide +kernel
theorem dX12_greatest_6 : decode cX12_greatest 6 = .ok (.getfield 293, 3) := by decide +kernel
theorem dX12_greatest_9 : decode cX12_greatest 9 = .ok (.if_icmp .ge 51, 3) := by decide +kernel
theorem dX12_greatest_12 : decode cX12_greatest 12 = .ok (.iload_n 1, 1) := by decide +kernel
theorem dX12_greatest_13 : decode cX12_greatest 13 = .ok (.bipush 6, 2) := by decide +kernel
theorem dX12_greatest_15 : decode cX12_greatest 15 = .ok (.if_icmp .ne 17, 3) := by decide +kernel
theorem dX12_greatest_18 : decode cX12_greatest 18 = .ok (.iload_n 3, 1) := by decide +kernel
theorem dX12_greatest_19 : decode cX12_greatest 19 = .ok (.aload_n 0, 1) := by decide +kernel
theorem dX12_greatest_20 : decode cX12_greatest 20 = .ok (.getfield 55, 3) := by decide +kernel
theorem dX12_greatest_23 : decode cX12_greatest 23 = .ok (.invokestatic 311, 3) := by decide +kernel
theorem dX12_greatest_26 : decode cX12_greatest 26 = .ok (.if_icmp .ne 6, 3) := by decide +kernel
theorem dX12_greatest_29 : decode cX12_greatest 29 = .ok (.goto 25, 3) := by decide +kernel
theorem dX12_greatest_32 : decode cX12_greatest 32 = .ok (.iload_n 2, 1) := by decide +kernel
theorem dX12_greatest_33 : decode cX12_greatest 33 = .ok (.iconst (-1), 1) := by decide +kernel
theorem dX12_greatest_34 : decode cX12_greatest 34 = .ok (.if_icmp .eq 18, 3) := by decide +kernel
theorem dX12_greatest_37 : decode cX12_greatest 37 = .ok (.aload_n 0, 1) := by decide +kernel
theorem dX12_greatest_38 : decode cX12_greatest 38 = .ok (.iload_n 1, 1) := by decide +kernel
theorem dX12_greatest_39 : decode cX12_greatest 39 = .ok (.iload_n 3, 1) := by decide +kernel
theorem dX12_greatest_40 : decode cX12_greatest 40 = .ok (.invokevirtual 491, 3) := by decide +kernel
theorem dX12_greatest_43 : decode cX12_greatest 43 = .ok (.aload_n 0, 1) := by decide +kernel
theorem dX12_greatest_44 : decode cX12_greatest 44 = .ok (.iload_n 1, 1) := by decide +kernel
theorem dX12_greatest_45 : decode cX12_greatest 45 = .ok (.iload_n 2, 1) := by decide +kernel
theorem dX12_greatest_46 : decode cX12_greatest 46 = .ok (.invokevirtual 491, 3) := by decide +kernel
theorem dX12_greatest_49 : decode cX12_greatest 49 = .ok (.if_icmp .le 5, 3) := by decide +kernel
theorem dX12_greatest_52 : decode cX12_greatest 52 = .ok (.iload_n 3, 1) := by decide +kernel
theorem dX12_greatest_53 : decode cX12_greatest 53 = .ok (.istore_n 2, 1) := by decide +kernel
theorem dX12_greatest_54 : decode cX12_greatest 54 = .ok (.iinc 3 1, 3) := by decide +kernel
theorem dX12_greatest_57 : decode cX12_greatest 57 = .ok (.goto (-53), 3) := by decide +kernel
theorem dX12_greatest_60 : decode cX12_greatest 60 = .ok (.iload_n 2, 1) := by decide +kernel
theorem dX12_greatest_61 : decode cX12_greatest 61 = .ok (.ireturn, 1) := by decide +kernel
theorem dX12_reach_0 : decode cX12_reach 0 = .ok (.iconst 0, 1) := by decide +kernel
theorem dX12_reach_1 : decode cX12_reach 1 = .ok (.istore_n 1, 1) := by decide +kernel
theorem dX12_reach_2 : decode cX12_reach 2 = .ok (.iconst 0, 1) := by decide +kernel
theorem dX12_reach_3 : decode cX12_reach 3 = .ok (.istore_n 2, 1) := by decide +kernel
theorem dX12_reach_4 : decode cX12_reach 4 = .ok (.iload_n 2, 1) := by decide +kernel
theorem dX12_reach_5 : decode cX12_reach 5 = .ok (.aload_n 0, 1) := by decide +kernel
theorem dX12_reach_6 : decode cX12_reach 6 = .ok (.getfield 293, 3) := by decide +kernel
theorem dX12_reach_9 : decode cX12_reach 9 = .ok (.if_icmp .ge 31, 3) := by decide +kernel
theorem dX12_reach_12 : decode cX12_reach 12 = .ok (.iload_n 1, 1) := by decide +kernel
theorem dX12_reach_13 : decode cX12_reach 13 = .ok (.aload_n 0, 1) := by decide +kernel
theorem dX12_reach_14 : decode cX12_reach 14 = .ok (.aload_n 0, 1) := by decide +kernel
theorem dX12_reach_15 : decode cX12_reach 15 = .ok (.getfield 55, 3) := by decide +kernel
theorem dX12_reach_18 : decode cX12_reach 18 = .ok (.iload_n 2, 1) := by decide +kernel
theorem dX12_reach_19 : decode cX12_reach 19 = .ok (.invokevirtual 353, 3) := by decide +kernel
theorem dX12_reach_22 : decode cX12_reach 22 = .ok (.ifCond .eq 9, 3) := by decide +kernel
theorem dX12_reach_25 : decode cX12_reach 25 = .ok (.iconst 1, 1) := by decide +kernel
theorem dX12_reach_26 : decode cX12_reach 26 = .ok (.iload_n 2, 1) := by decide +kernel
theorem dX12_reach_27 : decode cX12_reach 27 = .ok (.ishl, 1) := by decide +kernel
theorem dX12_reach_28 : decode cX12_reach 28 = .ok (.goto 4, 3) := by decide +kernel
theorem dX12_reach_31 : decode cX12_reach 31 = .ok (.iconst 0, 1) := by decide +kernel
theorem dX12_reach_32 : decode cX12_reach 32 = .ok (.ior, 1) := by decide +kernel
theorem dX12_reach_33 : decode cX12_reach 33 = .ok (.istore_n 1, 1) := by decide +kernel
theorem dX12_reach_34 : decode cX12_reach 34 = .ok (.iinc 2 1, 3) := by decide +kernel
theorem dX12_reach_37 : decode cX12_reach 37 = .ok (.goto (-33), 3) := by decide +kernel
theorem dX12_reach_40 : decode cX12_reach 40 = .ok (.iload_n 1, 1) := by decide +kernel
theorem dX12_reach_41 : decode cX12_reach 41 = .ok (.ireturn, 1) := by decide +kernel
theorem dX12_spread_0 : decode cX12_spread 0 = .ok (.iconst 0, 1) := by decide +kernel
theorem dX12_spread_1 : decode cX12_spread 1 = .ok (.istore_n 1, 1) := by decide +kernel
theorem dX12_spread_2 : decode cX12_spread 2 = .ok (.iconst 0, 1) := by decide +kernel
theorem dX12_spread_3 : decode cX12_spread 3 = .ok (.istore_n 2, 1) := by decide +kernel
theorem dX12_spread_4 : decode cX12_spread 4 = .ok (.iload_n 2, 1) := by decide +kernel
theorem dX12_spread_5 : decode cX12_spread 5 = .ok (.aload_n 0, 1) := by decide +kernel
theorem dX12_spread_6 : decode cX12_spread 6 = .ok (.getfield 293, 3) := by decide +kernel
theorem dX12_spread_9 : decode cX12_spread 9 = .ok (.if_icmp .ge 33, 3) := by decide +kernel
theorem dX12_spread_12 : decode cX12_spread 12 = .ok (.iconst 0, 1) := by decide +kernel
theorem dX12_spread_13 : decode cX12_spread 13 = .ok (.istore_n 3, 1) := by decide +kernel
theorem dX12_spread_14 : decode cX12_spread 14 = .ok (.iload_n 3, 1) := by decide +kernel
theorem dX12_spread_15 : decode cX12_spread 15 = .ok (.iload_n 2, 1) := by decide +kernel
theorem dX12_spread_16 : decode cX12_spread 16 = .ok (.if_icmp .ge 20, 3) := by decide +kernel
theorem dX12_spread_19 : decode cX12_spread 19 = .ok (.iload_n 1, 1) := by decide +kernel
theorem dX12_spread_20 : decode cX12_spread 20 = .ok (.aload_n 0, 1) := by decide +kernel
theorem dX12_spread_21 : decode cX12_spread 21 = .ok (.iload_n 2, 1) := by decide +kernel
theorem dX12_spread_22 : decode cX12_spread 22 = .ok (.iload_n 3, 1) := by decide +kernel
theorem dX12_spread_23 : decode cX12_spread 23 = .ok (.invokevirtual 315, 3) := by decide +kernel
theorem dX12_spread_26 : decode cX12_spread 26 = .ok (.invokestatic 337, 3) := by decide +kernel
theorem dX12_spread_29 : decode cX12_spread 29 = .ok (.istore_n 1, 1) := by decide +kernel
theorem dX12_spread_30 : decode cX12_spread 30 = .ok (.iinc 3 1, 3) := by decide +kernel
theorem dX12_spread_33 : decode cX12_spread 33 = .ok (.goto (-19), 3) := by decide +kernel
theorem dX12_spread_36 : decode cX12_spread 36 = .ok (.iinc 2 1, 3) := by decide +kernel
theorem dX12_spread_39 : decode cX12_spread 39 = .ok (.goto (-35), 3) := by decide +kernel
theorem dX12_spread_42 : decode cX12_spread 42 = .ok (.iload_n 1, 1) := by decide +kernel
theorem dX12_spread_43 : decode cX12_spread 43 = .ok (.ireturn, 1) := by decide +kernel
theorem dX12_all_0 : decode cX12_all 0 = .ok (.aload_n 0, 1) := by decide +kernel
theorem dX12_all_1 : decode cX12_all 1 = .ok (.iconst 0, 1) := by decide +kernel
theorem dX12_all_2 : decode cX12_all 2 = .ok (.putfield 103, 3) := by decide +kernel
theorem dX12_all_5 : decode cX12_all 5 = .ok (.aload_n 0, 1) := by decide +kernel
theorem dX12_all_6 : decode cX12_all 6 = .ok (.getfield 293, 3) := by decide +kernel
theorem dX12_all_9 : decode cX12_all 9 = .ok (.ifCond .ne 5, 3) := by decide +kernel
theorem dX12_all_12 : decode cX12_all 12 = .ok (.iconst (-1), 1) := by decide +kernel
theorem dX12_all_13 : decode cX12_all 13 = .ok (.ireturn, 1) := by decide +kernel
theorem dX12_all_14 : decode cX12_all 14 = .ok (.iload_n 1, 1) := by decide +kernel
theorem dX12_all_15 : decode cX12_all 15 = .ok (.tableswitch 101 0 9 #[53, 61, 70, 70, 70, 70, 70, 76, 81, 96], 53) := by decide +kernel
theorem dX12_all_68 : decode cX12_all 68 = .ok (.aload_n 0, 1) := by decide +kernel
theorem dX12_all_69 : decode cX12_all 69 = .ok (.getfield 55, 3) := by decide +kernel
theorem dX12_all_72 : decode cX12_all 72 = .ok (.bipush 26, 2) := by decide +kernel
theorem dX12_all_74 : decode cX12_all 74 = .ok (.iaload, 1) := by decide +kernel
theorem dX12_all_75 : decode cX12_all 75 = .ok (.ireturn, 1) := by decide +kernel
theorem dX12_all_76 : decode cX12_all 76 = .ok (.aload_n 0, 1) := by decide +kernel
theorem dX12_all_77 : decode cX12_all 77 = .ok (.aload_n 0, 1) := by decide +kernel
theorem dX12_all_78 : decode cX12_all 78 = .ok (.getfield 55, 3) := by decide +kernel
theorem dX12_all_81 : decode cX12_all 81 = .ok (.invokevirtual 346, 3) := by decide +kernel
theorem dX12_all_84 : decode cX12_all 84 = .ok (.ireturn, 1) := by decide +kernel
theorem dX12_all_85 : decode cX12_all 85 = .ok (.aload_n 0, 1) := by decide +kernel
theorem dX12_all_86 : decode cX12_all 86 = .ok (.iload_n 1, 1) := by decide +kernel
theorem dX12_all_87 : decode cX12_all 87 = .ok (.invokevirtual 494, 3) := by decide +kernel
theorem dX12_all_90 : decode cX12_all 90 = .ok (.ireturn, 1) := by decide +kernel
theorem dX12_all_91 : decode cX12_all 91 = .ok (.aload_n 0, 1) := by decide +kernel
theorem dX12_all_92 : decode cX12_all 92 = .ok (.invokevirtual 497, 3) := by decide +kernel
theorem dX12_all_95 : decode cX12_all 95 = .ok (.ireturn, 1) := by decide +kernel
theorem dX12_all_96 : decode cX12_all 96 = .ok (.aload_n 0, 1) := by decide +kernel
theorem dX12_all_97 : decode cX12_all 97 = .ok (.getfield 37, 3) := by decide +kernel
theorem dX12_all_100 : decode cX12_all 100 = .ok (.iconst 0, 1) := by decide +kernel
theorem dX12_all_101 : decode cX12_all 101 = .ok (.iaload, 1) := by decide +kernel
theorem dX12_all_102 : decode cX12_all 102 = .ok (.aload_n 0, 1) := by decide +kernel
theorem dX12_all_103 : decode cX12_all 103 = .ok (.getfield 55, 3) := by decide +kernel
theorem dX12_all_106 : decode cX12_all 106 = .ok (.bipush 22, 2) := by decide +kernel
theorem dX12_all_108 : decode cX12_all 108 = .ok (.iaload, 1) := by decide +kernel
theorem dX12_all_109 : decode cX12_all 109 = .ok (.isub, 1) := by decide +kernel
theorem dX12_all_110 : decode cX12_all 110 = .ok (.ireturn, 1) := by decide +kernel
theorem dX12_all_111 : decode cX12_all 111 = .ok (.aload_n 0, 1) := by decide +kernel
theorem dX12_all_112 : decode cX12_all 112 = .ok (.invokevirtual 500, 3) := by decide +kernel
theorem dX12_all_115 : decode cX12_all 115 = .ok (.ireturn, 1) := by decide +kernel
theorem dX12_all_116 : decode cX12_all 116 = .ok (.iconst (-1), 1) := by decide +kernel
theorem dX12_all_117 : decode cX12_all 117 = .ok (.ireturn, 1) := by decide +kernel
theorem dX12_kinds_0 : decode cX12_kinds 0 = .ok (.aload_n 0, 1) := by decide +kernel
theorem dX12_kinds_1 : decode cX12_kinds 1 = .ok (.iconst 0, 1) := by decide +kernel
theorem dX12_kinds_2 : decode cX12_kinds 2 = .ok (.putfield 103, 3) := by decide +kernel
theorem dX12_kinds_5 : decode cX12_kinds 5 = .ok (.aload_n 0, 1) := by decide +kernel
theorem dX12_kinds_6 : decode cX12_kinds 6 = .ok (.getfield 293, 3) := by decide +kernel
theorem dX12_kinds_9 : decode cX12_kinds 9 = .ok (.ifCond .eq 15, 3) := by decide +kernel
theorem dX12_kinds_12 : decode cX12_kinds 12 = .ok (.iload_n 1, 1) := by decide +kernel
theorem dX12_kinds_13 : decode cX12_kinds 13 = .ok (.i2l, 1) := by decide +kernel
theorem dX12_kinds_14 : decode cX12_kinds 14 = .ok (.lconst 0, 1) := by decide +kernel
theorem dX12_kinds_15 : decode cX12_kinds 15 = .ok (.ldc2_w 478, 3) := by decide +kernel
theorem dX12_kinds_18 : decode cX12_kinds 18 = .ok (.invokestatic 224, 3) := by decide +kernel
theorem dX12_kinds_21 : decode cX12_kinds 21 = .ok (.ifCond .ne 5, 3) := by decide +kernel
theorem dX12_kinds_24 : decode cX12_kinds 24 = .ok (.iconst (-1), 1) := by decide +kernel
theorem dX12_kinds_25 : decode cX12_kinds 25 = .ok (.ireturn, 1) := by decide +kernel
theorem dX12_kinds_26 : decode cX12_kinds 26 = .ok (.iconst 0, 1) := by decide +kernel
theorem dX12_kinds_27 : decode cX12_kinds 27 = .ok (.istore_n 2, 1) := by decide +kernel
theorem dX12_kinds_28 : decode cX12_kinds 28 = .ok (.iconst 0, 1) := by decide +kernel
theorem dX12_kinds_29 : decode cX12_kinds 29 = .ok (.istore_n 3, 1) := by decide +kernel
theorem dX12_kinds_30 : decode cX12_kinds 30 = .ok (.iload_n 3, 1) := by decide +kernel
theorem dX12_kinds_31 : decode cX12_kinds 31 = .ok (.aload_n 0, 1) := by decide +kernel
theorem dX12_kinds_32 : decode cX12_kinds 32 = .ok (.getfield 293, 3) := by decide +kernel
theorem dX12_kinds_35 : decode cX12_kinds 35 = .ok (.if_icmp .ge 29, 3) := by decide +kernel
theorem dX12_kinds_38 : decode cX12_kinds 38 = .ok (.iload_n 2, 1) := by decide +kernel
theorem dX12_kinds_39 : decode cX12_kinds 39 = .ok (.aload_n 0, 1) := by decide +kernel
theorem dX12_kinds_40 : decode cX12_kinds 40 = .ok (.iload_n 3, 1) := by decide +kernel
theorem dX12_kinds_41 : decode cX12_kinds 41 = .ok (.iconst 2, 1) := by decide +kernel
theorem dX12_kinds_42 : decode cX12_kinds 42 = .ok (.invokevirtual 305, 3) := by decide +kernel
theorem dX12_kinds_45 : decode cX12_kinds 45 = .ok (.iload_n 1, 1) := by decide +kernel
theorem dX12_kinds_46 : decode cX12_kinds 46 = .ok (.if_icmp .ne 9, 3) := by decide +kernel
theorem dX12_kinds_49 : decode cX12_kinds 49 = .ok (.iconst 1, 1) := by decide +kernel
theorem dX12_kinds_50 : decode cX12_kinds 50 = .ok (.iload_n 3, 1) := by decide +kernel
theorem dX12_kinds_51 : decode cX12_kinds 51 = .ok (.ishl, 1) := by decide +kernel
theorem dX12_kinds_52 : decode cX12_kinds 52 = .ok (.goto 4, 3) := by decide +kernel
theorem dX12_kinds_55 : decode cX12_kinds 55 = .ok (.iconst 0, 1) := by decide +kernel
theorem dX12_kinds_56 : decode cX12_kinds 56 = .ok (.ior, 1) := by decide +kernel
theorem dX12_kinds_57 : decode cX12_kinds 57 = .ok (.istore_n 2, 1) := by decide +kernel
theorem dX12_kinds_58 : decode cX12_kinds 58 = .ok (.iinc 3 1, 3) := by decide +kernel
theorem dX12_kinds_61 : decode cX12_kinds 61 = .ok (.goto (-31), 3) := by decide +kernel
theorem dX12_kinds_64 : decode cX12_kinds 64 = .ok (.iload_n 2, 1) := by decide +kernel
theorem dX12_kinds_65 : decode cX12_kinds 65 = .ok (.ireturn, 1) := by decide +kernel
theorem dX12_calm_0 : decode cX12_calm 0 = .ok (.aload_n 0, 1) := by decide +kernel
theorem dX12_calm_1 : decode cX12_calm 1 = .ok (.iconst 0, 1) := by decide +kernel
theorem dX12_calm_2 : decode cX12_calm 2 = .ok (.putfield 103, 3) := by decide +kernel
theorem dX12_calm_5 : decode cX12_calm 5 = .ok (.aload_n 0, 1) := by decide +kernel
theorem dX12_calm_6 : decode cX12_calm 6 = .ok (.iload_n 1, 1) := by decide +kernel
theorem dX12_calm_7 : decode cX12_calm 7 = .ok (.invokevirtual 339, 3) := by decide +kernel
theorem dX12_calm_10 : decode cX12_calm 10 = .ok (.ifCond .ne 5, 3) := by decide +kernel
theorem dX12_calm_13 : decode cX12_calm 13 = .ok (.iconst (-1), 1) := by decide +kernel
theorem dX12_calm_14 : decode cX12_calm 14 = .ok (.ireturn, 1) := by decide +kernel
theorem dX12_calm_15 : decode cX12_calm 15 = .ok (.iconst 0, 1) := by decide +kernel
theorem dX12_calm_16 : decode cX12_calm 16 = .ok (.istore_n 2, 1) := by decide +kernel
theorem dX12_calm_17 : decode cX12_calm 17 = .ok (.iload_n 2, 1) := by decide +kernel
theorem dX12_calm_18 : decode cX12_calm 18 = .ok (.bipush 60, 2) := by decide +kernel
theorem dX12_calm_20 : decode cX12_calm 20 = .ok (.if_icmp .gt 47, 3) := by decide +kernel
theorem dX12_calm_23 : decode cX12_calm 23 = .ok (.iconst 0, 1) := by decide +kernel
theorem dX12_calm_24 : decode cX12_calm 24 = .ok (.aload_n 0, 1) := by decide +kernel
theorem dX12_calm_25 : decode cX12_calm 25 = .ok (.getfield 55, 3) := by decide +kernel
theorem dX12_calm_28 : decode cX12_calm 28 = .ok (.iconst 3, 1) := by decide +kernel
theorem dX12_calm_29 : decode cX12_calm 29 = .ok (.iload_n 1, 1) := by decide +kernel
theorem dX12_calm_30 : decode cX12_calm 30 = .ok (.imul, 1) := by decide +kernel
theorem dX12_calm_31 : decode cX12_calm 31 = .ok (.iconst 0, 1) := by decide +kernel
theorem dX12_calm_32 : decode cX12_calm 32 = .ok (.iadd, 1) := by decide +kernel
theorem dX12_calm_33 : decode cX12_calm 33 = .ok (.iaload, 1) := by decide +kernel
theorem dX12_calm_34 : decode cX12_calm 34 = .ok (.iload_n 2, 1) := by decide +kernel
theorem dX12_calm_35 : decode cX12_calm 35 = .ok (.aload_n 0, 1) := by decide +kernel
theorem dX12_calm_36 : decode cX12_calm 36 = .ok (.getfield 37, 3) := by decide +kernel
theorem dX12_calm_39 : decode cX12_calm 39 = .ok (.iconst 2, 1) := by decide +kernel
theorem dX12_calm_40 : decode cX12_calm 40 = .ok (.iaload, 1) := by decide +kernel
theorem dX12_calm_41 : decode cX12_calm 41 = .ok (.imul, 1) := by decide +kernel
theorem dX12_calm_42 : decode cX12_calm 42 = .ok (.isub, 1) := by decide +kernel
theorem dX12_calm_43 : decode cX12_calm 43 = .ok (.invokestatic 337, 3) := by decide +kernel
theorem dX12_calm_46 : decode cX12_calm 46 = .ok (.aload_n 0, 1) := by decide +kernel
theorem dX12_calm_47 : decode cX12_calm 47 = .ok (.getfield 55, 3) := by decide +kernel
theorem dX12_calm_50 : decode cX12_calm 50 = .ok (.iconst 3, 1) := by decide +kernel
theorem dX12_calm_51 : decode cX12_calm 51 = .ok (.iload_n 1, 1) := by decide +kernel
theorem dX12_calm_52 : decode cX12_calm 52 = .ok (.imul, 1) := by decide +kernel
theorem dX12_calm_53 : decode cX12_calm 53 = .ok (.iconst 1, 1) := by decide +kernel
theorem dX12_calm_54 : decode cX12_calm 54 = .ok (.iadd, 1) := by decide +kernel
theorem dX12_calm_55 : decode cX12_calm 55 = .ok (.iaload, 1) := by decide +kernel
theorem dX12_calm_56 : decode cX12_calm 56 = .ok (.if_icmp .gt 5, 3) := by decide +kernel
theorem dX12_calm_59 : decode cX12_calm 59 = .ok (.iload_n 2, 1) := by decide +kernel
theorem dX12_calm_60 : decode cX12_calm 60 = .ok (.ireturn, 1) := by decide +kernel
theorem dX12_calm_61 : decode cX12_calm 61 = .ok (.iinc 2 1, 3) := by decide +kernel
theorem dX12_calm_64 : decode cX12_calm 64 = .ok (.goto (-47), 3) := by decide +kernel
theorem dX12_calm_67 : decode cX12_calm 67 = .ok (.iconst (-1), 1) := by decide +kernel
theorem dX12_calm_68 : decode cX12_calm 68 = .ok (.ireturn, 1) := by decide +kernel
theorem dX12_image_0 : decode cX12_image 0 = .ok (.aload_n 0, 1) := by decide +kernel
theorem dX12_image_1 : decode cX12_image 1 = .ok (.iconst 0, 1) := by decide +kernel
theorem dX12_image_2 : decode cX12_image 2 = .ok (.putfield 103, 3) := by decide +kernel
theorem dX12_image_5 : decode cX12_image 5 = .ok (.aload_n 0, 1) := by decide +kernel
theorem dX12_image_6 : decode cX12_image 6 = .ok (.getfield 293, 3) := by decide +kernel
theorem dX12_image_9 : decode cX12_image 9 = .ok (.ifCond .ne 5, 3) := by decide +kernel
theorem dX12_image_12 : decode cX12_image 12 = .ok (.iconst (-1), 1) := by decide +kernel
theorem dX12_image_13 : decode cX12_image 13 = .ok (.ireturn, 1) := by decide +kernel
theorem dX12_image_14 : decode cX12_image 14 = .ok (.iconst 0, 1) := by decide +kernel
theorem dX12_image_15 : decode cX12_image 15 = .ok (.istore_n 1, 1) := by decide +kernel
theorem dX12_image_16 : decode cX12_image 16 = .ok (.iload_n 1, 1) := by decide +kernel
theorem dX12_image_17 : decode cX12_image 17 = .ok (.sipush 209, 3) := by decide +kernel
theorem dX12_image_20 : decode cX12_image 20 = .ok (.if_icmp .ge 21, 3) := by decide +kernel
theorem dX12_image_23 : decode cX12_image 23 = .ok (.aload_n 0, 1) := by decide +kernel
theorem dX12_image_24 : decode cX12_image 24 = .ok (.getfield 100, 3) := by decide +kernel
theorem dX12_image_27 : decode cX12_image 27 = .ok (.iload_n 1, 1) := by decide +kernel
theorem dX12_image_28 : decode cX12_image 28 = .ok (.aload_n 0, 1) := by decide +kernel
theorem dX12_image_29 : decode cX12_image 29 = .ok (.getfield 55, 3) := by decide +kernel
theorem dX12_image_32 : decode cX12_image 32 = .ok (.iload_n 1, 1) := by decide +kernel
theorem dX12_image_33 : decode cX12_image 33 = .ok (.iaload, 1) := by decide +kernel
theorem dX12_image_34 : decode cX12_image 34 = .ok (.iastore, 1) := by decide +kernel
theorem dX12_image_35 : decode cX12_image 35 = .ok (.iinc 1 1, 3) := by decide +kernel
theorem dX12_image_38 : decode cX12_image 38 = .ok (.goto (-22), 3) := by decide +kernel
theorem dX12_image_41 : decode cX12_image 41 = .ok (.aload_n 0, 1) := by decide +kernel
theorem dX12_image_42 : decode cX12_image 42 = .ok (.iconst 1, 1) := by decide +kernel
theorem dX12_image_43 : decode cX12_image 43 = .ok (.putfield 302, 3) := by decide +kernel
theorem dX12_image_46 : decode cX12_image 46 = .ok (.aload_n 0, 1) := by decide +kernel
theorem dX12_image_47 : decode cX12_image 47 = .ok (.getfield 55, 3) := by decide +kernel
theorem dX12_image_50 : decode cX12_image 50 = .ok (.bipush 27, 2) := by decide +kernel
theorem dX12_image_52 : decode cX12_image 52 = .ok (.iaload, 1) := by decide +kernel
theorem dX12_image_53 : decode cX12_image 53 = .ok (.ireturn, 1) := by decide +kernel
theorem dX12_back_0 : decode cX12_back 0 = .ok (.aload_n 0, 1) := by decide +kernel
theorem dX12_back_1 : decode cX12_back 1 = .ok (.iconst 0, 1) := by decide +kernel
theorem dX12_back_2 : decode cX12_back 2 = .ok (.putfield 103, 3) := by decide +kernel
theorem dX12_back_5 : decode cX12_back 5 = .ok (.aload_n 0, 1) := by decide +kernel
theorem dX12_back_6 : decode cX12_back 6 = .ok (.getfield 302, 3) := by decide +kernel
theorem dX12_back_9 : decode cX12_back 9 = .ok (.ifCond .ne 5, 3) := by decide +kernel
theorem dX12_back_12 : decode cX12_back 12 = .ok (.iconst (-1), 1) := by decide +kernel
theorem dX12_back_13 : decode cX12_back 13 = .ok (.ireturn, 1) := by decide +kernel
theorem dX12_back_14 : decode cX12_back 14 = .ok (.iconst 0, 1) := by decide +kernel
theorem dX12_back_15 : decode cX12_back 15 = .ok (.istore_n 1, 1) := by decide +kernel
theorem dX12_back_16 : decode cX12_back 16 = .ok (.iload_n 1, 1) := by decide +kernel
theorem dX12_back_17 : decode cX12_back 17 = .ok (.sipush 209, 3) := by decide +kernel
theorem dX12_back_20 : decode cX12_back 20 = .ok (.if_icmp .ge 21, 3) := by decide +kernel
theorem dX12_back_23 : decode cX12_back 23 = .ok (.aload_n 0, 1) := by decide +kernel
theorem dX12_back_24 : decode cX12_back 24 = .ok (.getfield 55, 3) := by decide +kernel
theorem dX12_back_27 : decode cX12_back 27 = .ok (.iload_n 1, 1) := by decide +kernel
theorem dX12_back_28 : decode cX12_back 28 = .ok (.aload_n 0, 1) := by decide +kernel
theorem dX12_back_29 : decode cX12_back 29 = .ok (.getfield 100, 3) := by decide +kernel
theorem dX12_back_32 : decode cX12_back 32 = .ok (.iload_n 1, 1) := by decide +kernel
theorem dX12_back_33 : decode cX12_back 33 = .ok (.iaload, 1) := by decide +kernel
theorem dX12_back_34 : decode cX12_back 34 = .ok (.iastore, 1) := by decide +kernel
theorem dX12_back_35 : decode cX12_back 35 = .ok (.iinc 1 1, 3) := by decide +kernel
theorem dX12_back_38 : decode cX12_back 38 = .ok (.goto (-22), 3) := by decide +kernel
theorem dX12_back_41 : decode cX12_back 41 = .ok (.aload_n 0, 1) := by decide +kernel
theorem dX12_back_42 : decode cX12_back 42 = .ok (.iconst 0, 1) := by decide +kernel
theorem dX12_back_43 : decode cX12_back 43 = .ok (.putfield 299, 3) := by decide +kernel
theorem dX12_back_46 : decode cX12_back 46 = .ok (.aload_n 0, 1) := by decide +kernel
theorem dX12_back_47 : decode cX12_back 47 = .ok (.getfield 55, 3) := by decide +kernel
theorem dX12_back_50 : decode cX12_back 50 = .ok (.bipush 27, 2) := by decide +kernel
theorem dX12_back_52 : decode cX12_back 52 = .ok (.iaload, 1) := by decide +kernel
theorem dX12_back_53 : decode cX12_back 53 = .ok (.ireturn, 1) := by decide +kernel
theorem dX12_count_0 : decode cX12_count 0 = .ok (.aload_n 0, 1) := by decide +kernel
theorem dX12_count_1 : decode cX12_count 1 = .ok (.iconst 0, 1) := by decide +kernel
theorem dX12_count_2 : decode cX12_count 2 = .ok (.putfield 103, 3) := by decide +kernel
theorem dX12_count_5 : decode cX12_count 5 = .ok (.iload_n 1, 1) := by decide +kernel
theorem dX12_count_6 : decode cX12_count 6 = .ok (.tableswitch 170 0 14 #[74, 79, 84, 89, 94, 99, 107, 115, 123, 131, 139, 147, 152, 157, 165], 74) := by decide +kernel
theorem dX12_count_80 : decode cX12_count 80 = .ok (.aload_n 0, 1) := by decide +kernel
theorem dX12_count_81 : decode cX12_count 81 = .ok (.getfield 293, 3) := by decide +kernel
theorem dX12_count_84 : decode cX12_count 84 = .ok (.ireturn, 1) := by decide +kernel
theorem dX12_count_85 : decode cX12_count 85 = .ok (.aload_n 0, 1) := by decide +kernel
theorem dX12_count_86 : decode cX12_count 86 = .ok (.getfield 285, 3) := by decide +kernel
theorem dX12_count_89 : decode cX12_count 89 = .ok (.ireturn, 1) := by decide +kernel
theorem dX12_count_90 : decode cX12_count 90 = .ok (.aload_n 0, 1) := by decide +kernel
theorem dX12_count_91 : decode cX12_count 91 = .ok (.getfield 288, 3) := by decide +kernel
theorem dX12_count_94 : decode cX12_count 94 = .ok (.ireturn, 1) := by decide +kernel
theorem dX12_count_95 : decode cX12_count 95 = .ok (.aload_n 0, 1) := by decide +kernel
theorem dX12_count_96 : decode cX12_count 96 = .ok (.getfield 116, 3) := by decide +kernel
theorem dX12_count_99 : decode cX12_count 99 = .ok (.ireturn, 1) := by decide +kernel
theorem dX12_count_100 : decode cX12_count 100 = .ok (.aload_n 0, 1) := by decide +kernel
theorem dX12_count_101 : decode cX12_count 101 = .ok (.getfield 61, 3) := by decide +kernel
theorem dX12_count_104 : decode cX12_count 104 = .ok (.ireturn, 1) := by decide +kernel
theorem dX12_count_105 : decode cX12_count 105 = .ok (.aload_n 0, 1) := by decide +kernel
theorem dX12_count_106 : decode cX12_count 106 = .ok (.getfield 55, 3) := by decide +kernel
theorem dX12_count_109 : decode cX12_count 109 = .ok (.bipush 27, 2) := by decide +kernel
theorem dX12_count_111 : decode cX12_count 111 = .ok (.iaload, 1) := by decide +kernel
theorem dX12_count_112 : decode cX12_count 112 = .ok (.ireturn, 1) := by decide +kernel
theorem dX12_count_113 : decode cX12_count 113 = .ok (.aload_n 0, 1) := by decide +kernel
theorem dX12_count_114 : decode cX12_count 114 = .ok (.getfield 55, 3) := by decide +kernel
theorem dX12_count_117 : decode cX12_count 117 = .ok (.bipush 21, 2) := by decide +kernel
theorem dX12_count_119 : decode cX12_count 119 = .ok (.iaload, 1) := by decide +kernel
theorem dX12_count_120 : decode cX12_count 120 = .ok (.ireturn, 1) := by decide +kernel
theorem dX12_count_121 : decode cX12_count 121 = .ok (.aload_n 0, 1) := by decide +kernel
theorem dX12_count_122 : decode cX12_count 122 = .ok (.getfield 55, 3) := by decide +kernel
theorem dX12_count_125 : decode cX12_count 125 = .ok (.bipush 22, 2) := by decide +kernel
theorem dX12_count_127 : decode cX12_count 127 = .ok (.iaload, 1) := by decide +kernel
theorem dX12_count_128 : decode cX12_count 128 = .ok (.ireturn, 1) := by decide +kernel
theorem dX12_count_129 : decode cX12_count 129 = .ok (.aload_n 0, 1) := by decide +kernel
theorem dX12_count_130 : decode cX12_count 130 = .ok (.getfield 55, 3) := by decide +kernel
theorem dX12_count_133 : decode cX12_count 133 = .ok (.invokestatic 311, 3) := by decide +kernel
theorem dX12_count_136 : decode cX12_count 136 = .ok (.ireturn, 1) := by decide +kernel
theorem dX12_count_137 : decode cX12_count 137 = .ok (.aload_n 0, 1) := by decide +kernel
theorem dX12_count_138 : decode cX12_count 138 = .ok (.getfield 55, 3) := by decide +kernel
theorem dX12_count_141 : decode cX12_count 141 = .ok (.bipush 24, 2) := by decide +kernel
theorem dX12_count_143 : decode cX12_count 143 = .ok (.iaload, 1) := by decide +kernel
theorem dX12_count_144 : decode cX12_count 144 = .ok (.ireturn, 1) := by decide +kernel
theorem dX12_count_145 : decode cX12_count 145 = .ok (.aload_n 0, 1) := by decide +kernel
theorem dX12_count_146 : decode cX12_count 146 = .ok (.getfield 55, 3) := by decide +kernel
theorem dX12_count_149 : decode cX12_count 149 = .ok (.bipush 25, 2) := by decide +kernel
theorem dX12_count_151 : decode cX12_count 151 = .ok (.iaload, 1) := by decide +kernel
theorem dX12_count_152 : decode cX12_count 152 = .ok (.ireturn, 1) := by decide +kernel
theorem dX12_count_153 : decode cX12_count 153 = .ok (.aload_n 0, 1) := by decide +kernel
theorem dX12_count_154 : decode cX12_count 154 = .ok (.getfield 65, 3) := by decide +kernel
theorem dX12_count_157 : decode cX12_count 157 = .ok (.ireturn, 1) := by decide +kernel
theorem dX12_count_158 : decode cX12_count 158 = .ok (.aload_n 0, 1) := by decide +kernel
theorem dX12_count_159 : decode cX12_count 159 = .ok (.getfield 296, 3) := by decide +kernel
theorem dX12_count_162 : decode cX12_count 162 = .ok (.ireturn, 1) := by decide +kernel
theorem dX12_count_163 : decode cX12_count 163 = .ok (.aload_n 0, 1) := by decide +kernel
theorem dX12_count_164 : decode cX12_count 164 = .ok (.getfield 55, 3) := by decide +kernel
theorem dX12_count_167 : decode cX12_count 167 = .ok (.bipush 28, 2) := by decide +kernel
theorem dX12_count_169 : decode cX12_count 169 = .ok (.iaload, 1) := by decide +kernel
theorem dX12_count_170 : decode cX12_count 170 = .ok (.ireturn, 1) := by decide +kernel
theorem dX12_count_171 : decode cX12_count 171 = .ok (.aload_n 0, 1) := by decide +kernel
theorem dX12_count_172 : decode cX12_count 172 = .ok (.getfield 299, 3) := by decide +kernel
theorem dX12_count_175 : decode cX12_count 175 = .ok (.ireturn, 1) := by decide +kernel
theorem dX12_count_176 : decode cX12_count 176 = .ok (.ldc_w 400, 3) := by decide +kernel
theorem dX12_count_179 : decode cX12_count 179 = .ok (.ireturn, 1) := by decide +kernel
theorem dJ6_bitCount_0f7a4_0 : decode cJ6_bitCount_0f7a4 0 = .ok (.iload_n 0, 1) := by decide +kernel
theorem dJ6_bitCount_0f7a4_1 : decode cJ6_bitCount_0f7a4 1 = .ok (.iload_n 0, 1) := by decide +kernel
theorem dJ6_bitCount_0f7a4_2 : decode cJ6_bitCount_0f7a4 2 = .ok (.iconst 1, 1) := by decide +kernel
theorem dJ6_bitCount_0f7a4_3 : decode cJ6_bitCount_0f7a4 3 = .ok (.iushr, 1) := by decide +kernel
theorem dJ6_bitCount_0f7a4_4 : decode cJ6_bitCount_0f7a4 4 = .ok (.ldc_w 265, 3) := by decide +kernel
theorem dJ6_bitCount_0f7a4_7 : decode cJ6_bitCount_0f7a4 7 = .ok (.iand, 1) := by decide +kernel
theorem dJ6_bitCount_0f7a4_8 : decode cJ6_bitCount_0f7a4 8 = .ok (.isub, 1) := by decide +kernel
theorem dJ6_bitCount_0f7a4_9 : decode cJ6_bitCount_0f7a4 9 = .ok (.istore_n 0, 1) := by decide +kernel
theorem dJ6_bitCount_0f7a4_10 : decode cJ6_bitCount_0f7a4 10 = .ok (.iload_n 0, 1) := by decide +kernel
theorem dJ6_bitCount_0f7a4_11 : decode cJ6_bitCount_0f7a4 11 = .ok (.ldc_w 266, 3) := by decide +kernel
theorem dJ6_bitCount_0f7a4_14 : decode cJ6_bitCount_0f7a4 14 = .ok (.iand, 1) := by decide +kernel
theorem dJ6_bitCount_0f7a4_15 : decode cJ6_bitCount_0f7a4 15 = .ok (.iload_n 0, 1) := by decide +kernel
theorem dJ6_bitCount_0f7a4_16 : decode cJ6_bitCount_0f7a4 16 = .ok (.iconst 2, 1) := by decide +kernel
theorem dJ6_bitCount_0f7a4_17 : decode cJ6_bitCount_0f7a4 17 = .ok (.iushr, 1) := by decide +kernel
theorem dJ6_bitCount_0f7a4_18 : decode cJ6_bitCount_0f7a4 18 = .ok (.ldc_w 266, 3) := by decide +kernel
theorem dJ6_bitCount_0f7a4_21 : decode cJ6_bitCount_0f7a4 21 = .ok (.iand, 1) := by decide +kernel
theorem dJ6_bitCount_0f7a4_22 : decode cJ6_bitCount_0f7a4 22 = .ok (.iadd, 1) := by decide +kernel
theorem dJ6_bitCount_0f7a4_23 : decode cJ6_bitCount_0f7a4 23 = .ok (.istore_n 0, 1) := by decide +kernel
theorem dJ6_bitCount_0f7a4_24 : decode cJ6_bitCount_0f7a4 24 = .ok (.iload_n 0, 1) := by decide +kernel
theorem dJ6_bitCount_0f7a4_25 : decode cJ6_bitCount_0f7a4 25 = .ok (.iload_n 0, 1) := by decide +kernel
theorem dJ6_bitCount_0f7a4_26 : decode cJ6_bitCount_0f7a4 26 = .ok (.iconst 4, 1) := by decide +kernel
theorem dJ6_bitCount_0f7a4_27 : decode cJ6_bitCount_0f7a4 27 = .ok (.iushr, 1) := by decide +kernel
theorem dJ6_bitCount_0f7a4_28 : decode cJ6_bitCount_0f7a4 28 = .ok (.iadd, 1) := by decide +kernel
theorem dJ6_bitCount_0f7a4_29 : decode cJ6_bitCount_0f7a4 29 = .ok (.ldc_w 267, 3) := by decide +kernel
theorem dJ6_bitCount_0f7a4_32 : decode cJ6_bitCount_0f7a4 32 = .ok (.iand, 1) := by decide +kernel
theorem dJ6_bitCount_0f7a4_33 : decode cJ6_bitCount_0f7a4 33 = .ok (.istore_n 0, 1) := by decide +kernel
theorem dJ6_bitCount_0f7a4_34 : decode cJ6_bitCount_0f7a4 34 = .ok (.iload_n 0, 1) := by decide +kernel
theorem dJ6_bitCount_0f7a4_35 : decode cJ6_bitCount_0f7a4 35 = .ok (.iload_n 0, 1) := by decide +kernel
theorem dJ6_bitCount_0f7a4_36 : decode cJ6_bitCount_0f7a4 36 = .ok (.bipush 8, 2) := by decide +kernel
theorem dJ6_bitCount_0f7a4_38 : decode cJ6_bitCount_0f7a4 38 = .ok (.iushr, 1) := by decide +kernel
theorem dJ6_bitCount_0f7a4_39 : decode cJ6_bitCount_0f7a4 39 = .ok (.iadd, 1) := by decide +kernel
theorem dJ6_bitCount_0f7a4_40 : decode cJ6_bitCount_0f7a4 40 = .ok (.istore_n 0, 1) := by decide +kernel
theorem dJ6_bitCount_0f7a4_41 : decode cJ6_bitCount_0f7a4 41 = .ok (.iload_n 0, 1) := by decide +kernel
theorem dJ6_bitCount_0f7a4_42 : decode cJ6_bitCount_0f7a4 42 = .ok (.iload_n 0, 1) := by decide +kernel
theorem dJ6_bitCount_0f7a4_43 : decode cJ6_bitCount_0f7a4 43 = .ok (.bipush 16, 2) := by decide +kernel
theorem dJ6_bitCount_0f7a4_45 : decode cJ6_bitCount_0f7a4 45 = .ok (.iushr, 1) := by decide +kernel
theorem dJ6_bitCount_0f7a4_46 : decode cJ6_bitCount_0f7a4 46 = .ok (.iadd, 1) := by decide +kernel
theorem dJ6_bitCount_0f7a4_47 : decode cJ6_bitCount_0f7a4 47 = .ok (.istore_n 0, 1) := by decide +kernel
theorem dJ6_bitCount_0f7a4_48 : decode cJ6_bitCount_0f7a4 48 = .ok (.iload_n 0, 1) := by decide +kernel
theorem dJ6_bitCount_0f7a4_49 : decode cJ6_bitCount_0f7a4 49 = .ok (.bipush 63, 2) := by decide +kernel
theorem dJ6_bitCount_0f7a4_51 : decode cJ6_bitCount_0f7a4 51 = .ok (.iand, 1) := by decide +kernel
theorem dJ6_bitCount_0f7a4_52 : decode cJ6_bitCount_0f7a4 52 = .ok (.ireturn, 1) := by decide +kernel
theorem dJ9_floorMod_7cf53_0 : decode cJ9_floorMod_7cf53 0 = .ok (.iload_n 0, 1) := by decide +kernel
theorem dJ9_floorMod_7cf53_1 : decode cJ9_floorMod_7cf53 1 = .ok (.iload_n 1, 1) := by decide +kernel
theorem dJ9_floorMod_7cf53_2 : decode cJ9_floorMod_7cf53 2 = .ok (.irem, 1) := by decide +kernel
theorem dJ9_floorMod_7cf53_3 : decode cJ9_floorMod_7cf53 3 = .ok (.istore_n 2, 1) := by decide +kernel
theorem dJ9_floorMod_7cf53_4 : decode cJ9_floorMod_7cf53 4 = .ok (.iload_n 0, 1) := by decide +kernel
theorem dJ9_floorMod_7cf53_5 : decode cJ9_floorMod_7cf53 5 = .ok (.iload_n 1, 1) := by decide +kernel
theorem dJ9_floorMod_7cf53_6 : decode cJ9_floorMod_7cf53 6 = .ok (.ixor, 1) := by decide +kernel
theorem dJ9_floorMod_7cf53_7 : decode cJ9_floorMod_7cf53 7 = .ok (.ifCond .ge 11, 3) := by decide +kernel
theorem dJ9_floorMod_7cf53_10 : decode cJ9_floorMod_7cf53 10 = .ok (.iload_n 2, 1) := by decide +kernel
theorem dJ9_floorMod_7cf53_11 : decode cJ9_floorMod_7cf53 11 = .ok (.ifCond .eq 7, 3) := by decide +kernel
theorem dJ9_floorMod_7cf53_14 : decode cJ9_floorMod_7cf53 14 = .ok (.iload_n 2, 1) := by decide +kernel
theorem dJ9_floorMod_7cf53_15 : decode cJ9_floorMod_7cf53 15 = .ok (.iload_n 1, 1) := by decide +kernel
theorem dJ9_floorMod_7cf53_16 : decode cJ9_floorMod_7cf53 16 = .ok (.iadd, 1) := by decide +kernel
theorem dJ9_floorMod_7cf53_17 : decode cJ9_floorMod_7cf53 17 = .ok (.ireturn, 1) := by decide +kernel
theorem dJ9_floorMod_7cf53_18 : decode cJ9_floorMod_7cf53 18 = .ok (.iload_n 2, 1) := by decide +kernel
theorem dJ9_floorMod_7cf53_19 : decode cJ9_floorMod_7cf53 19 = .ok (.ireturn, 1) := by decide +kernel
theorem dJ9_abs_0f7a4_0 : decode cJ9_abs_0f7a4 0 = .ok (.iload_n 0, 1) := by decide +kernel
theorem dJ9_abs_0f7a4_1 : decode cJ9_abs_0f7a4 1 = .ok (.ifCond .ge 8, 3) := by decide +kernel
theorem dJ9_abs_0f7a4_4 : decode cJ9_abs_0f7a4 4 = .ok (.iload_n 0, 1) := by decide +kernel
theorem dJ9_abs_0f7a4_5 : decode cJ9_abs_0f7a4 5 = .ok (.ineg, 1) := by decide +kernel
theorem dJ9_abs_0f7a4_6 : decode cJ9_abs_0f7a4 6 = .ok (.goto 4, 3) := by decide +kernel
theorem dJ9_abs_0f7a4_9 : decode cJ9_abs_0f7a4 9 = .ok (.iload_n 0, 1) := by decide +kernel
theorem dJ9_abs_0f7a4_10 : decode cJ9_abs_0f7a4 10 = .ok (.ireturn, 1) := by decide +kernel
theorem dJ9_max_7cf53_0 : decode cJ9_max_7cf53 0 = .ok (.iload_n 0, 1) := by decide +kernel
theorem dJ9_max_7cf53_1 : decode cJ9_max_7cf53 1 = .ok (.iload_n 1, 1) := by decide +kernel
theorem dJ9_max_7cf53_2 : decode cJ9_max_7cf53 2 = .ok (.if_icmp .lt 7, 3) := by decide +kernel
theorem dJ9_max_7cf53_5 : decode cJ9_max_7cf53 5 = .ok (.iload_n 0, 1) := by decide +kernel
theorem dJ9_max_7cf53_6 : decode cJ9_max_7cf53 6 = .ok (.goto 4, 3) := by decide +kernel
theorem dJ9_max_7cf53_9 : decode cJ9_max_7cf53 9 = .ok (.iload_n 1, 1) := by decide +kernel
theorem dJ9_max_7cf53_10 : decode cJ9_max_7cf53 10 = .ok (.ireturn, 1) := by decide +kernel
theorem dJ9_max_f86c9_0 : decode cJ9_max_f86c9 0 = .ok (.lload_n 0, 1) := by decide +kernel
theorem dJ9_max_f86c9_1 : decode cJ9_max_f86c9 1 = .ok (.lload_n 2, 1) := by decide +kernel
theorem dJ9_max_f86c9_2 : decode cJ9_max_f86c9 2 = .ok (.lcmp, 1) := by decide +kernel
theorem dJ9_max_f86c9_3 : decode cJ9_max_f86c9 3 = .ok (.ifCond .lt 7, 3) := by decide +kernel
theorem dJ9_max_f86c9_6 : decode cJ9_max_f86c9 6 = .ok (.lload_n 0, 1) := by decide +kernel
theorem dJ9_max_f86c9_7 : decode cJ9_max_f86c9 7 = .ok (.goto 4, 3) := by decide +kernel
theorem dJ9_max_f86c9_10 : decode cJ9_max_f86c9 10 = .ok (.lload_n 2, 1) := by decide +kernel
theorem dJ9_max_f86c9_11 : decode cJ9_max_f86c9 11 = .ok (.lreturn, 1) := by decide +kernel
theorem dJ9_min_7cf53_0 : decode cJ9_min_7cf53 0 = .ok (.iload_n 0, 1) := by decide +kernel
theorem dJ9_min_7cf53_1 : decode cJ9_min_7cf53 1 = .ok (.iload_n 1, 1) := by decide +kernel
theorem dJ9_min_7cf53_2 : decode cJ9_min_7cf53 2 = .ok (.if_icmp .gt 7, 3) := by decide +kernel
theorem dJ9_min_7cf53_5 : decode cJ9_min_7cf53 5 = .ok (.iload_n 0, 1) := by decide +kernel
theorem dJ9_min_7cf53_6 : decode cJ9_min_7cf53 6 = .ok (.goto 4, 3) := by decide +kernel
theorem dJ9_min_7cf53_9 : decode cJ9_min_7cf53 9 = .ok (.iload_n 1, 1) := by decide +kernel
theorem dJ9_min_7cf53_10 : decode cJ9_min_7cf53 10 = .ok (.ireturn, 1) := by decide +kernel
theorem dJ9_min_f86c9_0 : decode cJ9_min_f86c9 0 = .ok (.lload_n 0, 1) := by decide +kernel
theorem dJ9_min_f86c9_1 : decode cJ9_min_f86c9 1 = .ok (.lload_n 2, 1) := by decide +kernel
theorem dJ9_min_f86c9_2 : decode cJ9_min_f86c9 2 = .ok (.lcmp, 1) := by decide +kernel
theorem dJ9_min_f86c9_3 : decode cJ9_min_f86c9 3 = .ok (.ifCond .gt 7, 3) := by decide +kernel
theorem dJ9_min_f86c9_6 : decode cJ9_min_f86c9 6 = .ok (.lload_n 0, 1) := by decide +kernel
theorem dJ9_min_f86c9_7 : decode cJ9_min_f86c9 7 = .ok (.goto 4, 3) := by decide +kernel
theorem dJ9_min_f86c9_10 : decode cJ9_min_f86c9 10 = .ok (.lload_n 2, 1) := by decide +kernel
theorem dJ9_min_f86c9_11 : decode cJ9_min_f86c9 11 = .ok (.lreturn, 1) := by decide +kernel
theorem dJ0_length_8abf5_0 : decode cJ0_length_8abf5 0 = .ok (.aload_n 0, 1) := by decide +kernel
theorem dJ0_length_8abf5_1 : decode cJ0_length_8abf5 1 = .ok (.getfield 9, 3) := by decide +kernel
theorem dJ0_length_8abf5_4 : decode cJ0_length_8abf5 4 = .ok (.arraylength, 1) := by decide +kernel
theorem dJ0_length_8abf5_5 : decode cJ0_length_8abf5 5 = .ok (.aload_n 0, 1) := by decide +kernel
theorem dJ0_length_8abf5_6 : decode cJ0_length_8abf5 6 = .ok (.invokevirtual 335, 3) := by decide +kernel
theorem dJ0_length_8abf5_9 : decode cJ0_length_8abf5 9 = .ok (.ishr, 1) := by decide +kernel
theorem dJ0_length_8abf5_10 : decode cJ0_length_8abf5 10 = .ok (.ireturn, 1) := by decide +kernel
theorem dJ0_charAt_5068e_0 : decode cJ0_charAt_5068e 0 = .ok (.aload_n 0, 1) := by decide +kernel
theorem dJ0_charAt_5068e_1 : decode cJ0_charAt_5068e 1 = .ok (.invokevirtual 492, 3) := by decide +kernel
theorem dJ0_charAt_5068e_4 : decode cJ0_charAt_5068e 4 = .ok (.ifCond .eq 12, 3) := by decide +kernel
theorem dJ0_charAt_5068e_7 : decode cJ0_charAt_5068e 7 = .ok (.aload_n 0, 1) := by decide +kernel
theorem dJ0_charAt_5068e_8 : decode cJ0_charAt_5068e 8 = .ok (.getfield 9, 3) := by decide +kernel
theorem dJ0_charAt_5068e_11 : decode cJ0_charAt_5068e 11 = .ok (.iload_n 1, 1) := by decide +kernel
theorem dJ0_charAt_5068e_12 : decode cJ0_charAt_5068e 12 = .ok (.invokestatic 495, 3) := by decide +kernel
theorem dJ0_charAt_5068e_15 : decode cJ0_charAt_5068e 15 = .ok (.ireturn, 1) := by decide +kernel
theorem dJ0_charAt_5068e_16 : decode cJ0_charAt_5068e 16 = .ok (.aload_n 0, 1) := by decide +kernel
theorem dJ0_charAt_5068e_17 : decode cJ0_charAt_5068e 17 = .ok (.getfield 9, 3) := by decide +kernel
theorem dJ0_charAt_5068e_20 : decode cJ0_charAt_5068e 20 = .ok (.iload_n 1, 1) := by decide +kernel
theorem dJ0_charAt_5068e_21 : decode cJ0_charAt_5068e 21 = .ok (.invokestatic 498, 3) := by decide +kernel
theorem dJ0_charAt_5068e_24 : decode cJ0_charAt_5068e 24 = .ok (.ireturn, 1) := by decide +kernel
theorem dJ0_coder_7d493_0 : decode cJ0_coder_7d493 0 = .ok (.getstatic 38, 3) := by decide +kernel
theorem dJ0_coder_7d493_3 : decode cJ0_coder_7d493 3 = .ok (.ifCond .eq 10, 3) := by decide +kernel
theorem dJ0_coder_7d493_6 : decode cJ0_coder_7d493 6 = .ok (.aload_n 0, 1) := by decide +kernel
theorem dJ0_coder_7d493_7 : decode cJ0_coder_7d493 7 = .ok (.getfield 15, 3) := by decide +kernel
theorem dJ0_coder_7d493_10 : decode cJ0_coder_7d493 10 = .ok (.goto 4, 3) := by decide +kernel
theorem dJ0_coder_7d493_13 : decode cJ0_coder_7d493 13 = .ok (.iconst 1, 1) := by decide +kernel
theorem dJ0_coder_7d493_14 : decode cJ0_coder_7d493 14 = .ok (.ireturn, 1) := by decide +kernel
theorem dJ0_isLatin1_aae02_0 : decode cJ0_isLatin1_aae02 0 = .ok (.getstatic 38, 3) := by decide +kernel
theorem dJ0_isLatin1_aae02_3 : decode cJ0_isLatin1_aae02 3 = .ok (.ifCond .eq 14, 3) := by decide +kernel
theorem dJ0_isLatin1_aae02_6 : decode cJ0_isLatin1_aae02 6 = .ok (.aload_n 0, 1) := by decide +kernel
theorem dJ0_isLatin1_aae02_7 : decode cJ0_isLatin1_aae02 7 = .ok (.getfield 15, 3) := by decide +kernel
theorem dJ0_isLatin1_aae02_10 : decode cJ0_isLatin1_aae02 10 = .ok (.ifCond .ne 7, 3) := by decide +kernel
theorem dJ0_isLatin1_aae02_13 : decode cJ0_isLatin1_aae02 13 = .ok (.iconst 1, 1) := by decide +kernel
theorem dJ0_isLatin1_aae02_14 : decode cJ0_isLatin1_aae02 14 = .ok (.goto 4, 3) := by decide +kernel
theorem dJ0_isLatin1_aae02_17 : decode cJ0_isLatin1_aae02 17 = .ok (.iconst 0, 1) := by decide +kernel
theorem dJ0_isLatin1_aae02_18 : decode cJ0_isLatin1_aae02 18 = .ok (.ireturn, 1) := by decide +kernel
theorem dJ0_checkIndex_df160_0 : decode cJ0_checkIndex_df160 0 = .ok (.iload_n 0, 1) := by decide +kernel
theorem dJ0_checkIndex_df160_1 : decode cJ0_checkIndex_df160 1 = .ok (.iload_n 1, 1) := by decide +kernel
theorem dJ0_checkIndex_df160_2 : decode cJ0_checkIndex_df160 2 = .ok (.getstatic 1053, 3) := by decide +kernel
theorem dJ0_checkIndex_df160_5 : decode cJ0_checkIndex_df160 5 = .ok (.invokestatic 1059, 3) := by decide +kernel
theorem dJ0_checkIndex_df160_8 : decode cJ0_checkIndex_df160 8 = .ok (.pop, 1) := by decide +kernel
theorem dJ0_checkIndex_df160_9 : decode cJ0_checkIndex_df160 9 = .ok (.return_, 1) := by decide +kernel
theorem dJ1_charAt_3b067_0 : decode cJ1_charAt_3b067 0 = .ok (.iload_n 1, 1) := by decide +kernel
theorem dJ1_charAt_3b067_1 : decode cJ1_charAt_3b067 1 = .ok (.aload_n 0, 1) := by decide +kernel
theorem dJ1_charAt_3b067_2 : decode cJ1_charAt_3b067 2 = .ok (.arraylength, 1) := by decide +kernel
theorem dJ1_charAt_3b067_3 : decode cJ1_charAt_3b067 3 = .ok (.invokestatic 9, 3) := by decide +kernel
theorem dJ1_charAt_3b067_6 : decode cJ1_charAt_3b067 6 = .ok (.aload_n 0, 1) := by decide +kernel
theorem dJ1_charAt_3b067_7 : decode cJ1_charAt_3b067 7 = .ok (.iload_n 1, 1) := by decide +kernel
theorem dJ1_charAt_3b067_8 : decode cJ1_charAt_3b067 8 = .ok (.baload, 1) := by decide +kernel
theorem dJ1_charAt_3b067_9 : decode cJ1_charAt_3b067 9 = .ok (.sipush 255, 3) := by decide +kernel
theorem dJ1_charAt_3b067_12 : decode cJ1_charAt_3b067 12 = .ok (.iand, 1) := by decide +kernel
theorem dJ1_charAt_3b067_13 : decode cJ1_charAt_3b067 13 = .ok (.i2c, 1) := by decide +kernel
theorem dJ1_charAt_3b067_14 : decode cJ1_charAt_3b067 14 = .ok (.ireturn, 1) := by decide +kernel
theorem dJ2_getChar_3b067_0 : decode cJ2_getChar_3b067 0 = .ok (.getstatic 44, 3) := by decide +kernel
theorem dJ2_getChar_3b067_3 : decode cJ2_getChar_3b067 3 = .ok (.ifCond .ne 25, 3) := by decide +kernel
theorem dJ2_getChar_3b067_6 : decode cJ2_getChar_3b067 6 = .ok (.iload_n 1, 1) := by decide +kernel
theorem dJ2_getChar_3b067_7 : decode cJ2_getChar_3b067 7 = .ok (.ifCond .lt 11, 3) := by decide +kernel
theorem dJ2_getChar_3b067_10 : decode cJ2_getChar_3b067 10 = .ok (.iload_n 1, 1) := by decide +kernel
theorem dJ2_getChar_3b067_11 : decode cJ2_getChar_3b067 11 = .ok (.aload_n 0, 1) := by decide +kernel
theorem dJ2_getChar_3b067_12 : decode cJ2_getChar_3b067 12 = .ok (.invokestatic 48, 3) := by decide +kernel
theorem dJ2_getChar_3b067_15 : decode cJ2_getChar_3b067 15 = .ok (.if_icmp .lt 13, 3) := by decide +kernel
theorem dJ2_getChar_3b067_18 : decode cJ2_getChar_3b067 18 = .ok (.new 52, 3) := by decide +kernel
theorem dJ2_getChar_3b067_21 : decode cJ2_getChar_3b067 21 = .ok (.dup, 1) := by decide +kernel
theorem dJ2_getChar_3b067_22 : decode cJ2_getChar_3b067 22 = .ok (.ldc 54, 2) := by decide +kernel
theorem dJ2_getChar_3b067_24 : decode cJ2_getChar_3b067 24 = .ok (.invokespecial 56, 3) := by decide +kernel
theorem dJ2_getChar_3b067_27 : decode cJ2_getChar_3b067 27 = .ok (.athrow, 1) := by decide +kernel
theorem dJ2_getChar_3b067_28 : decode cJ2_getChar_3b067 28 = .ok (.iload_n 1, 1) := by decide +kernel
theorem dJ2_getChar_3b067_29 : decode cJ2_getChar_3b067 29 = .ok (.iconst 1, 1) := by decide +kernel
theorem dJ2_getChar_3b067_30 : decode cJ2_getChar_3b067 30 = .ok (.ishl, 1) := by decide +kernel
theorem dJ2_getChar_3b067_31 : decode cJ2_getChar_3b067 31 = .ok (.istore_n 1, 1) := by decide +kernel
theorem dJ2_getChar_3b067_32 : decode cJ2_getChar_3b067 32 = .ok (.aload_n 0, 1) := by decide +kernel
theorem dJ2_getChar_3b067_33 : decode cJ2_getChar_3b067 33 = .ok (.iload_n 1, 1) := by decide +kernel
theorem dJ2_getChar_3b067_34 : decode cJ2_getChar_3b067 34 = .ok (.iinc 1 1, 3) := by decide +kernel
theorem dJ2_getChar_3b067_37 : decode cJ2_getChar_3b067 37 = .ok (.baload, 1) := by decide +kernel
theorem dJ2_getChar_3b067_38 : decode cJ2_getChar_3b067 38 = .ok (.sipush 255, 3) := by decide +kernel
theorem dJ2_getChar_3b067_41 : decode cJ2_getChar_3b067 41 = .ok (.iand, 1) := by decide +kernel
theorem dJ2_getChar_3b067_42 : decode cJ2_getChar_3b067 42 = .ok (.getstatic 59, 3) := by decide +kernel
theorem dJ2_getChar_3b067_45 : decode cJ2_getChar_3b067 45 = .ok (.ishl, 1) := by decide +kernel
theorem dJ2_getChar_3b067_46 : decode cJ2_getChar_3b067 46 = .ok (.aload_n 0, 1) := by decide +kernel
theorem dJ2_getChar_3b067_47 : decode cJ2_getChar_3b067 47 = .ok (.iload_n 1, 1) := by decide +kernel
theorem dJ2_getChar_3b067_48 : decode cJ2_getChar_3b067 48 = .ok (.baload, 1) := by decide +kernel
theorem dJ2_getChar_3b067_49 : decode cJ2_getChar_3b067 49 = .ok (.sipush 255, 3) := by decide +kernel
theorem dJ2_getChar_3b067_52 : decode cJ2_getChar_3b067 52 = .ok (.iand, 1) := by decide +kernel
theorem dJ2_getChar_3b067_53 : decode cJ2_getChar_3b067 53 = .ok (.getstatic 63, 3) := by decide +kernel
theorem dJ2_getChar_3b067_56 : decode cJ2_getChar_3b067 56 = .ok (.ishl, 1) := by decide +kernel
theorem dJ2_getChar_3b067_57 : decode cJ2_getChar_3b067 57 = .ok (.ior, 1) := by decide +kernel
theorem dJ2_getChar_3b067_58 : decode cJ2_getChar_3b067 58 = .ok (.i2c, 1) := by decide +kernel
theorem dJ2_getChar_3b067_59 : decode cJ2_getChar_3b067 59 = .ok (.ireturn, 1) := by decide +kernel
theorem dJ2_length_9d52b_0 : decode cJ2_length_9d52b 0 = .ok (.aload_n 0, 1) := by decide +kernel
theorem dJ2_length_9d52b_1 : decode cJ2_length_9d52b 1 = .ok (.arraylength, 1) := by decide +kernel
theorem dJ2_length_9d52b_2 : decode cJ2_length_9d52b 2 = .ok (.iconst 1, 1) := by decide +kernel
theorem dJ2_length_9d52b_3 : decode cJ2_length_9d52b 3 = .ok (.ishr, 1) := by decide +kernel
theorem dJ2_length_9d52b_4 : decode cJ2_length_9d52b 4 = .ok (.ireturn, 1) := by decide +kernel
theorem dJ2_charAt_3b067_0 : decode cJ2_charAt_3b067 0 = .ok (.iload_n 1, 1) := by decide +kernel
theorem dJ2_charAt_3b067_1 : decode cJ2_charAt_3b067 1 = .ok (.aload_n 0, 1) := by decide +kernel
theorem dJ2_charAt_3b067_2 : decode cJ2_charAt_3b067 2 = .ok (.invokestatic 67, 3) := by decide +kernel
theorem dJ2_charAt_3b067_5 : decode cJ2_charAt_3b067 5 = .ok (.aload_n 0, 1) := by decide +kernel
theorem dJ2_charAt_3b067_6 : decode cJ2_charAt_3b067 6 = .ok (.iload_n 1, 1) := by decide +kernel
theorem dJ2_charAt_3b067_7 : decode cJ2_charAt_3b067 7 = .ok (.invokestatic 71, 3) := by decide +kernel
theorem dJ2_charAt_3b067_10 : decode cJ2_charAt_3b067 10 = .ok (.ireturn, 1) := by decide +kernel
theorem dJ2_checkIndex_2214a_0 : decode cJ2_checkIndex_2214a 0 = .ok (.iload_n 0, 1) := by decide +kernel
theorem dJ2_checkIndex_2214a_1 : decode cJ2_checkIndex_2214a 1 = .ok (.aload_n 1, 1) := by decide +kernel
theorem dJ2_checkIndex_2214a_2 : decode cJ2_checkIndex_2214a 2 = .ok (.invokestatic 48, 3) := by decide +kernel
theorem dJ2_checkIndex_2214a_5 : decode cJ2_checkIndex_2214a 5 = .ok (.invokestatic 414, 3) := by decide +kernel
theorem dJ2_checkIndex_2214a_8 : decode cJ2_checkIndex_2214a 8 = .ok (.return_, 1) := by decide +kernel
theorem dJ3_checkIndex_8e157_0 : decode cJ3_checkIndex_8e157 0 = .ok (.iload_n 0, 1) := by decide +kernel
theorem dJ3_checkIndex_8e157_1 : decode cJ3_checkIndex_8e157 1 = .ok (.ifCond .lt 8, 3) := by decide +kernel
theorem dJ3_checkIndex_8e157_4 : decode cJ3_checkIndex_8e157 4 = .ok (.iload_n 0, 1) := by decide +kernel
theorem dJ3_checkIndex_8e157_5 : decode cJ3_checkIndex_8e157 5 = .ok (.iload_n 1, 1) := by decide +kernel
theorem dJ3_checkIndex_8e157_6 : decode cJ3_checkIndex_8e157 6 = .ok (.if_icmp .lt 10, 3) := by decide +kernel
theorem dJ3_checkIndex_8e157_9 : decode cJ3_checkIndex_8e157 9 = .ok (.aload_n 2, 1) := by decide +kernel
theorem dJ3_checkIndex_8e157_10 : decode cJ3_checkIndex_8e157 10 = .ok (.iload_n 0, 1) := by decide +kernel
theorem dJ3_checkIndex_8e157_11 : decode cJ3_checkIndex_8e157 11 = .ok (.iload_n 1, 1) := by decide +kernel
theorem dJ3_checkIndex_8e157_12 : decode cJ3_checkIndex_8e157 12 = .ok (.invokestatic 95, 3) := by decide +kernel
theorem dJ3_checkIndex_8e157_15 : decode cJ3_checkIndex_8e157 15 = .ok (.athrow, 1) := by decide +kernel
theorem dJ3_checkIndex_8e157_16 : decode cJ3_checkIndex_8e157 16 = .ok (.iload_n 0, 1) := by decide +kernel
theorem dJ3_checkIndex_8e157_17 : decode cJ3_checkIndex_8e157 17 = .ok (.ireturn, 1) := by decide +kernel
theorem dL_spot_0 : decode cL_spot 0 = .ok (.aload_n 3, 1) := by decide +kernel
theorem dL_spot_1 : decode cL_spot 1 = .ok (.iconst 0, 1) := by decide +kernel
theorem dL_spot_2 : decode cL_spot 2 = .ok (.aload_n 0, 1) := by decide +kernel
theorem dL_spot_3 : decode cL_spot 3 = .ok (.iload_n 1, 1) := by decide +kernel
theorem dL_spot_4 : decode cL_spot 4 = .ok (.iload_n 2, 1) := by decide +kernel
theorem dL_spot_5 : decode cL_spot 5 = .ok (.invokevirtual 7, 3) := by decide +kernel
theorem dL_spot_8 : decode cL_spot 8 = .ok (.i2l, 1) := by decide +kernel
theorem dL_spot_9 : decode cL_spot 9 = .ok (.lastore, 1) := by decide +kernel
theorem dL_spot_10 : decode cL_spot 10 = .ok (.goto 7, 3) := by decide +kernel
theorem dL_spot_13 : decode cL_spot 13 = .ok (.astore 4, 2) := by decide +kernel
theorem dL_spot_15 : decode cL_spot 15 = .ok (.iconst 1, 1) := by decide +kernel
theorem dL_spot_16 : decode cL_spot 16 = .ok (.ireturn, 1) := by decide +kernel
theorem dL_spot_17 : decode cL_spot 17 = .ok (.iconst 0, 1) := by decide +kernel
theorem dL_spot_18 : decode cL_spot 18 = .ok (.ireturn, 1) := by decide +kernel
theorem dL_law_0 : decode cL_law 0 = .ok (.new 8, 3) := by decide +kernel
theorem dL_law_3 : decode cL_law 3 = .ok (.dup, 1) := by decide +kernel
theorem dL_law_4 : decode cL_law 4 = .ok (.invokespecial 15, 3) := by decide +kernel
theorem dL_law_7 : decode cL_law 7 = .ok (.astore_n 1, 1) := by decide +kernel
theorem dL_law_8 : decode cL_law 8 = .ok (.new 16, 3) := by decide +kernel
theorem dL_law_11 : decode cL_law 11 = .ok (.dup, 1) := by decide +kernel
theorem dL_law_12 : decode cL_law 12 = .ok (.invokespecial 18, 3) := by decide +kernel
theorem dL_law_15 : decode cL_law 15 = .ok (.astore_n 2, 1) := by decide +kernel
theorem dL_law_16 : decode cL_law 16 = .ok (.iconst 1, 1) := by decide +kernel
theorem dL_law_17 : decode cL_law 17 = .ok (.newarray .long, 2) := by decide +kernel
theorem dL_law_19 : decode cL_law 19 = .ok (.astore_n 3, 1) := by decide +kernel
theorem dL_law_20 : decode cL_law 20 = .ok (.iconst 0, 1) := by decide +kernel
theorem dL_law_21 : decode cL_law 21 = .ok (.istore 4, 2) := by decide +kernel
theorem dL_law_23 : decode cL_law 23 = .ok (.iload 4, 2) := by decide +kernel
theorem dL_law_25 : decode cL_law 25 = .ok (.aload_n 0, 1) := by decide +kernel
theorem dL_law_26 : decode cL_law 26 = .ok (.arraylength, 1) := by decide +kernel
theorem dL_law_27 : decode cL_law 27 = .ok (.bipush 6, 2) := by decide +kernel
theorem dL_law_29 : decode cL_law 29 = .ok (.isub, 1) := by decide +kernel
theorem dL_law_30 : decode cL_law 30 = .ok (.if_icmp .gt 1523, 3) := by decide +kernel
theorem dL_law_33 : decode cL_law 33 = .ok (.aload_n 0, 1) := by decide +kernel
theorem dL_law_34 : decode cL_law 34 = .ok (.iload 4, 2) := by decide +kernel
theorem dL_law_36 : decode cL_law 36 = .ok (.iaload, 1) := by decide +kernel
theorem dL_law_37 : decode cL_law 37 = .ok (.bipush 63, 2) := by decide +kernel
theorem dL_law_39 : decode cL_law 39 = .ok (.iand, 1) := by decide +kernel
theorem dL_law_40 : decode cL_law 40 = .ok (.tableswitch 1507 0 39 #[176, 249, 274, 299, 324, 349, 417, 442, 467, 504, 529, 542, 567, 604, 617, 686, 699, 736, 785, 822, 847, 872, 897, 934, 959, 1024, 1061, 1098, 1123, 1148, 1185, 1258, 1307, 1356, 1381, 1406, 1431, 1456, 1469, 1482], 176) := by decide +kernel
theorem dL_law_216 : decode cL_law 216 = .ok (.aload_n 1, 1) := by decide +kernel
theorem dL_law_217 : decode cL_law 217 = .ok (.aload_n 0, 1) := by decide +kernel
theorem dL_law_218 : decode cL_law 218 = .ok (.iload 4, 2) := by decide +kernel
theorem dL_law_220 : decode cL_law 220 = .ok (.iconst 1, 1) := by decide +kernel
theorem dL_law_221 : decode cL_law 221 = .ok (.iadd, 1) := by decide +kernel
theorem dL_law_222 : decode cL_law 222 = .ok (.iaload, 1) := by decide +kernel
theorem dL_law_223 : decode cL_law 223 = .ok (.aload_n 0, 1) := by decide +kernel
theorem dL_law_224 : decode cL_law 224 = .ok (.iload 4, 2) := by decide +kernel
theorem dL_law_226 : decode cL_law 226 = .ok (.iconst 2, 1) := by decide +kernel
theorem dL_law_227 : decode cL_law 227 = .ok (.iadd, 1) := by decide +kernel
theorem dL_law_228 : decode cL_law 228 = .ok (.iaload, 1) := by decide +kernel
theorem dL_law_229 : decode cL_law 229 = .ok (.aload_n 0, 1) := by decide +kernel
theorem dL_law_230 : decode cL_law 230 = .ok (.iload 4, 2) := by decide +kernel
theorem dL_law_232 : decode cL_law 232 = .ok (.iconst 3, 1) := by decide +kernel
theorem dL_law_233 : decode cL_law 233 = .ok (.iadd, 1) := by decide +kernel
theorem dL_law_234 : decode cL_law 234 = .ok (.iaload, 1) := by decide +kernel
theorem dL_law_235 : decode cL_law 235 = .ok (.aload_n 0, 1) := by decide +kernel
theorem dL_law_236 : decode cL_law 236 = .ok (.iload 4, 2) := by decide +kernel
theorem dL_law_238 : decode cL_law 238 = .ok (.iconst 4, 1) := by decide +kernel
theorem dL_law_239 : decode cL_law 239 = .ok (.iadd, 1) := by decide +kernel
theorem dL_law_240 : decode cL_law 240 = .ok (.iaload, 1) := by decide +kernel
theorem dL_law_241 : decode cL_law 241 = .ok (.aload_n 0, 1) := by decide +kernel
theorem dL_law_242 : decode cL_law 242 = .ok (.iload 4, 2) := by decide +kernel
theorem dL_law_244 : decode cL_law 244 = .ok (.iconst 5, 1) := by decide +kernel
theorem dL_law_245 : decode cL_law 245 = .ok (.iadd, 1) := by decide +kernel
theorem dL_law_246 : decode cL_law 246 = .ok (.iaload, 1) := by decide +kernel
theorem dL_law_247 : decode cL_law 247 = .ok (.invokevirtual 19, 3) := by decide +kernel
theorem dL_law_250 : decode cL_law 250 = .ok (.aload_n 2, 1) := by decide +kernel
theorem dL_law_251 : decode cL_law 251 = .ok (.aload_n 0, 1) := by decide +kernel
theorem dL_law_252 : decode cL_law 252 = .ok (.iload 4, 2) := by decide +kernel
theorem dL_law_254 : decode cL_law 254 = .ok (.iconst 1, 1) := by decide +kernel
theorem dL_law_255 : decode cL_law 255 = .ok (.iadd, 1) := by decide +kernel
theorem dL_law_256 : decode cL_law 256 = .ok (.iaload, 1) := by decide +kernel
theorem dL_law_257 : decode cL_law 257 = .ok (.aload_n 0, 1) := by decide +kernel
theorem dL_law_258 : decode cL_law 258 = .ok (.iload 4, 2) := by decide +kernel
theorem dL_law_260 : decode cL_law 260 = .ok (.iconst 2, 1) := by decide +kernel
theorem dL_law_261 : decode cL_law 261 = .ok (.iadd, 1) := by decide +kernel
theorem dL_law_262 : decode cL_law 262 = .ok (.iaload, 1) := by decide +kernel
theorem dL_law_263 : decode cL_law 263 = .ok (.aload_n 0, 1) := by decide +kernel
theorem dL_law_264 : decode cL_law 264 = .ok (.iload 4, 2) := by decide +kernel
theorem dL_law_266 : decode cL_law 266 = .ok (.iconst 3, 1) := by decide +kernel
theorem dL_law_267 : decode cL_law 267 = .ok (.iadd, 1) := by decide +kernel
theorem dL_law_268 : decode cL_law 268 = .ok (.iaload, 1) := by decide +kernel
theorem dL_law_269 : decode cL_law 269 = .ok (.aload_n 0, 1) := by decide +kernel
theorem dL_law_270 : decode cL_law 270 = .ok (.iload 4, 2) := by decide +kernel
theorem dL_law_272 : decode cL_law 272 = .ok (.iconst 4, 1) := by decide +kernel
theorem dL_law_273 : decode cL_law 273 = .ok (.iadd, 1) := by decide +kernel
theorem dL_law_274 : decode cL_law 274 = .ok (.iaload, 1) := by decide +kernel
theorem dL_law_275 : decode cL_law 275 = .ok (.aload_n 0, 1) := by decide +kernel
theorem dL_law_276 : decode cL_law 276 = .ok (.iload 4, 2) := by decide +kernel
theorem dL_law_278 : decode cL_law 278 = .ok (.iconst 5, 1) := by decide +kernel
theorem dL_law_279 : decode cL_law 279 = .ok (.iadd, 1) := by decide +kernel
theorem dL_law_280 : decode cL_law 280 = .ok (.iaload, 1) := by decide +kernel
theorem dL_law_281 : decode cL_law 281 = .ok (.invokevirtual 23, 3) := by decide +kernel
theorem dL_law_284 : decode cL_law 284 = .ok (.if_icmp .eq 1263, 3) := by decide +kernel
theorem dL_law_287 : decode cL_law 287 = .ok (.iconst 0, 1) := by decide +kernel
theorem dL_law_288 : decode cL_law 288 = .ok (.ireturn, 1) := by decide +kernel
theorem dL_law_289 : decode cL_law 289 = .ok (.aload_n 1, 1) := by decide +kernel
theorem dL_law_290 : decode cL_law 290 = .ok (.aload_n 0, 1) := by decide +kernel
theorem dL_law_291 : decode cL_law 291 = .ok (.iload 4, 2) := by decide +kernel
theorem dL_law_293 : decode cL_law 293 = .ok (.iconst 1, 1) := by decide +kernel
theorem dL_law_294 : decode cL_law 294 = .ok (.iadd, 1) := by decide +kernel
theorem dL_law_295 : decode cL_law 295 = .ok (.iaload, 1) := by decide +kernel
theorem dL_law_296 : decode cL_law 296 = .ok (.invokevirtual 24, 3) := by decide +kernel
theorem dL_law_299 : decode cL_law 299 = .ok (.aload_n 2, 1) := by decide +kernel
theorem dL_law_300 : decode cL_law 300 = .ok (.aload_n 0, 1) := by decide +kernel
theorem dL_law_301 : decode cL_law 301 = .ok (.iload 4, 2) := by decide +kernel
theorem dL_law_303 : decode cL_law 303 = .ok (.iconst 1, 1) := by decide +kernel
theorem dL_law_304 : decode cL_law 304 = .ok (.iadd, 1) := by decide +kernel
theorem dL_law_305 : decode cL_law 305 = .ok (.iaload, 1) := by decide +kernel
theorem dL_law_306 : decode cL_law 306 = .ok (.invokevirtual 28, 3) := by decide +kernel
theorem dL_law_309 : decode cL_law 309 = .ok (.if_icmp .eq 1238, 3) := by decide +kernel
theorem dL_law_312 : decode cL_law 312 = .ok (.iconst 0, 1) := by decide +kernel
theorem dL_law_313 : decode cL_law 313 = .ok (.ireturn, 1) := by decide +kernel
theorem dL_law_314 : decode cL_law 314 = .ok (.aload_n 1, 1) := by decide +kernel
theorem dL_law_315 : decode cL_law 315 = .ok (.aload_n 0, 1) := by decide +kernel
theorem dL_law_316 : decode cL_law 316 = .ok (.iload 4, 2) := by decide +kernel
theorem dL_law_318 : decode cL_law 318 = .ok (.iconst 1, 1) := by decide +kernel
theorem dL_law_319 : decode cL_law 319 = .ok (.iadd, 1) := by decide +kernel
theorem dL_law_320 : decode cL_law 320 = .ok (.iaload, 1) := by decide +kernel
theorem dL_law_321 : decode cL_law 321 = .ok (.invokevirtual 29, 3) := by decide +kernel
theorem dL_law_324 : decode cL_law 324 = .ok (.aload_n 2, 1) := by decide +kernel
theorem dL_law_325 : decode cL_law 325 = .ok (.aload_n 0, 1) := by decide +kernel
theorem dL_law_326 : decode cL_law 326 = .ok (.iload 4, 2) := by decide +kernel
theorem dL_law_328 : decode cL_law 328 = .ok (.iconst 1, 1) := by decide +kernel
theorem dL_law_329 : decode cL_law 329 = .ok (.iadd, 1) := by decide +kernel
theorem dL_law_330 : decode cL_law 330 = .ok (.iaload, 1) := by decide +kernel
theorem dL_law_331 : decode cL_law 331 = .ok (.invokevirtual 33, 3) := by decide +kernel
theorem dL_law_334 : decode cL_law 334 = .ok (.if_icmp .eq 1213, 3) := by decide +kernel
theorem dL_law_337 : decode cL_law 337 = .ok (.iconst 0, 1) := by decide +kernel
theorem dL_law_338 : decode cL_law 338 = .ok (.ireturn, 1) := by decide +kernel
theorem dL_law_339 : decode cL_law 339 = .ok (.aload_n 1, 1) := by decide +kernel
theorem dL_law_340 : decode cL_law 340 = .ok (.aload_n 0, 1) := by decide +kernel
theorem dL_law_341 : decode cL_law 341 = .ok (.iload 4, 2) := by decide +kernel
theorem dL_law_343 : decode cL_law 343 = .ok (.iconst 1, 1) := by decide +kernel
theorem dL_law_344 : decode cL_law 344 = .ok (.iadd, 1) := by decide +kernel
theorem dL_law_345 : decode cL_law 345 = .ok (.iaload, 1) := by decide +kernel
theorem dL_law_346 : decode cL_law 346 = .ok (.invokevirtual 34, 3) := by decide +kernel
theorem dL_law_349 : decode cL_law 349 = .ok (.aload_n 2, 1) := by decide +kernel
theorem dL_law_350 : decode cL_law 350 = .ok (.aload_n 0, 1) := by decide +kernel
theorem dL_law_351 : decode cL_law 351 = .ok (.iload 4, 2) := by decide +kernel
theorem dL_law_353 : decode cL_law 353 = .ok (.iconst 1, 1) := by decide +kernel
theorem dL_law_354 : decode cL_law 354 = .ok (.iadd, 1) := by decide +kernel
theorem dL_law_355 : decode cL_law 355 = .ok (.iaload, 1) := by decide +kernel
theorem dL_law_356 : decode cL_law 356 = .ok (.invokevirtual 37, 3) := by decide +kernel
theorem dL_law_359 : decode cL_law 359 = .ok (.if_icmp .eq 1188, 3) := by decide +kernel
theorem dL_law_362 : decode cL_law 362 = .ok (.iconst 0, 1) := by decide +kernel
theorem dL_law_363 : decode cL_law 363 = .ok (.ireturn, 1) := by decide +kernel
theorem dL_law_364 : decode cL_law 364 = .ok (.aload_n 1, 1) := by decide +kernel
theorem dL_law_365 : decode cL_law 365 = .ok (.aload_n 0, 1) := by decide +kernel
theorem dL_law_366 : decode cL_law 366 = .ok (.iload 4, 2) := by decide +kernel
theorem dL_law_368 : decode cL_law 368 = .ok (.iconst 1, 1) := by decide +kernel
theorem dL_law_369 : decode cL_law 369 = .ok (.iadd, 1) := by decide +kernel
theorem dL_law_370 : decode cL_law 370 = .ok (.iaload, 1) := by decide +kernel
theorem dL_law_371 : decode cL_law 371 = .ok (.invokevirtual 38, 3) := by decide +kernel
theorem dL_law_374 : decode cL_law 374 = .ok (.aload_n 2, 1) := by decide +kernel
theorem dL_law_375 : decode cL_law 375 = .ok (.aload_n 0, 1) := by decide +kernel
theorem dL_law_376 : decode cL_law 376 = .ok (.iload 4, 2) := by decide +kernel
theorem dL_law_378 : decode cL_law 378 = .ok (.iconst 1, 1) := by decide +kernel
theorem dL_law_379 : decode cL_law 379 = .ok (.iadd, 1) := by decide +kernel
theorem dL_law_380 : decode cL_law 380 = .ok (.iaload, 1) := by decide +kernel
theorem dL_law_381 : decode cL_law 381 = .ok (.invokevirtual 41, 3) := by decide +kernel
theorem dL_law_384 : decode cL_law 384 = .ok (.if_icmp .eq 1163, 3) := by decide +kernel
theorem dL_law_387 : decode cL_law 387 = .ok (.iconst 0, 1) := by decide +kernel
theorem dL_law_388 : decode cL_law 388 = .ok (.ireturn, 1) := by decide +kernel
theorem dL_law_389 : decode cL_law 389 = .ok (.aload_n 1, 1) := by decide +kernel
theorem dL_law_390 : decode cL_law 390 = .ok (.aload_n 0, 1) := by decide +kernel
theorem dL_law_391 : decode cL_law 391 = .ok (.iload 4, 2) := by decide +kernel
theorem dL_law_393 : decode cL_law 393 = .ok (.iconst 1, 1) := by decide +kernel
theorem dL_law_394 : decode cL_law 394 = .ok (.iadd, 1) := by decide +kernel
theorem dL_law_395 : decode cL_law 395 = .ok (.iaload, 1) := by decide +kernel
theorem dL_law_396 : decode cL_law 396 = .ok (.aload_n 0, 1) := by decide +kernel
theorem dL_law_397 : decode cL_law 397 = .ok (.iload 4, 2) := by decide +kernel
theorem dL_law_399 : decode cL_law 399 = .ok (.iconst 2, 1) := by decide +kernel
theorem dL_law_400 : decode cL_law 400 = .ok (.iadd, 1) := by decide +kernel
theorem dL_law_401 : decode cL_law 401 = .ok (.iaload, 1) := by decide +kernel
theorem dL_law_402 : decode cL_law 402 = .ok (.aload_n 3, 1) := by decide +kernel
theorem dL_law_403 : decode cL_law 403 = .ok (.invokestatic 42, 3) := by decide +kernel
theorem dL_law_406 : decode cL_law 406 = .ok (.istore 5, 2) := by decide +kernel
theorem dL_law_408 : decode cL_law 408 = .ok (.aload_n 2, 1) := by decide +kernel
theorem dL_law_409 : decode cL_law 409 = .ok (.aload_n 0, 1) := by decide +kernel
theorem dL_law_410 : decode cL_law 410 = .ok (.iload 4, 2) := by decide +kernel
theorem dL_law_412 : decode cL_law 412 = .ok (.iconst 1, 1) := by decide +kernel
theorem dL_law_413 : decode cL_law 413 = .ok (.iadd, 1) := by decide +kernel
theorem dL_law_414 : decode cL_law 414 = .ok (.iaload, 1) := by decide +kernel
theorem dL_law_415 : decode cL_law 415 = .ok (.aload_n 0, 1) := by decide +kernel
theorem dL_law_416 : decode cL_law 416 = .ok (.iload 4, 2) := by decide +kernel
theorem dL_law_418 : decode cL_law 418 = .ok (.iconst 2, 1) := by decide +kernel
theorem dL_law_419 : decode cL_law 419 = .ok (.iadd, 1) := by decide +kernel
theorem dL_law_420 : decode cL_law 420 = .ok (.iaload, 1) := by decide +kernel
theorem dL_law_421 : decode cL_law 421 = .ok (.invokevirtual 47, 3) := by decide +kernel
theorem dL_law_424 : decode cL_law 424 = .ok (.istore 6, 2) := by decide +kernel
theorem dL_law_426 : decode cL_law 426 = .ok (.aload_n 2, 1) := by decide +kernel
theorem dL_law_427 : decode cL_law 427 = .ok (.invokevirtual 48, 3) := by decide +kernel
theorem dL_law_430 : decode cL_law 430 = .ok (.iload 5, 2) := by decide +kernel
theorem dL_law_432 : decode cL_law 432 = .ok (.if_icmp .eq 5, 3) := by decide +kernel
theorem dL_law_435 : decode cL_law 435 = .ok (.iconst 0, 1) := by decide +kernel
theorem dL_law_436 : decode cL_law 436 = .ok (.ireturn, 1) := by decide +kernel
theorem dL_law_437 : decode cL_law 437 = .ok (.iload 5, 2) := by decide +kernel
theorem dL_law_439 : decode cL_law 439 = .ok (.ifCond .ne 15, 3) := by decide +kernel
theorem dL_law_442 : decode cL_law 442 = .ok (.aload_n 3, 1) := by decide +kernel
theorem dL_law_443 : decode cL_law 443 = .ok (.iconst 0, 1) := by decide +kernel
theorem dL_law_444 : decode cL_law 444 = .ok (.laload, 1) := by decide +kernel
theorem dL_law_445 : decode cL_law 445 = .ok (.iload 6, 2) := by decide +kernel
theorem dL_law_447 : decode cL_law 447 = .ok (.i2l, 1) := by decide +kernel
theorem dL_law_448 : decode cL_law 448 = .ok (.lcmp, 1) := by decide +kernel
theorem dL_law_449 : decode cL_law 449 = .ok (.ifCond .eq 5, 3) := by decide +kernel
theorem dL_law_452 : decode cL_law 452 = .ok (.iconst 0, 1) := by decide +kernel
theorem dL_law_453 : decode cL_law 453 = .ok (.ireturn, 1) := by decide +kernel
theorem dL_law_454 : decode cL_law 454 = .ok (.goto 1093, 3) := by decide +kernel
theorem dL_law_457 : decode cL_law 457 = .ok (.aload_n 1, 1) := by decide +kernel
theorem dL_law_458 : decode cL_law 458 = .ok (.aload_n 0, 1) := by decide +kernel
theorem dL_law_459 : decode cL_law 459 = .ok (.iload 4, 2) := by decide +kernel
theorem dL_law_461 : decode cL_law 461 = .ok (.iconst 1, 1) := by decide +kernel
theorem dL_law_462 : decode cL_law 462 = .ok (.iadd, 1) := by decide +kernel
theorem dL_law_463 : decode cL_law 463 = .ok (.iaload, 1) := by decide +kernel
theorem dL_law_464 : decode cL_law 464 = .ok (.invokevirtual 52, 3) := by decide +kernel
theorem dL_law_467 : decode cL_law 467 = .ok (.aload_n 2, 1) := by decide +kernel
theorem dL_law_468 : decode cL_law 468 = .ok (.aload_n 0, 1) := by decide +kernel
theorem dL_law_469 : decode cL_law 469 = .ok (.iload 4, 2) := by decide +kernel
theorem dL_law_471 : decode cL_law 471 = .ok (.iconst 1, 1) := by decide +kernel
theorem dL_law_472 : decode cL_law 472 = .ok (.iadd, 1) := by decide +kernel
theorem dL_law_473 : decode cL_law 473 = .ok (.iaload, 1) := by decide +kernel
theorem dL_law_474 : decode cL_law 474 = .ok (.invokevirtual 55, 3) := by decide +kernel
theorem dL_law_477 : decode cL_law 477 = .ok (.if_icmp .eq 1070, 3) := by decide +kernel
theorem dL_law_480 : decode cL_law 480 = .ok (.iconst 0, 1) := by decide +kernel
theorem dL_law_481 : decode cL_law 481 = .ok (.ireturn, 1) := by decide +kernel
theorem dL_law_482 : decode cL_law 482 = .ok (.aload_n 1, 1) := by decide +kernel
theorem dL_law_483 : decode cL_law 483 = .ok (.aload_n 0, 1) := by decide +kernel
theorem dL_law_484 : decode cL_law 484 = .ok (.iload 4, 2) := by decide +kernel
theorem dL_law_486 : decode cL_law 486 = .ok (.iconst 1, 1) := by decide +kernel
theorem dL_law_487 : decode cL_law 487 = .ok (.iadd, 1) := by decide +kernel
theorem dL_law_488 : decode cL_law 488 = .ok (.iaload, 1) := by decide +kernel
theorem dL_law_489 : decode cL_law 489 = .ok (.invokevirtual 56, 3) := by decide +kernel
theorem dL_law_492 : decode cL_law 492 = .ok (.aload_n 2, 1) := by decide +kernel
theorem dL_law_493 : decode cL_law 493 = .ok (.aload_n 0, 1) := by decide +kernel
theorem dL_law_494 : decode cL_law 494 = .ok (.iload 4, 2) := by decide +kernel
theorem dL_law_496 : decode cL_law 496 = .ok (.iconst 1, 1) := by decide +kernel
theorem dL_law_497 : decode cL_law 497 = .ok (.iadd, 1) := by decide +kernel
theorem dL_law_498 : decode cL_law 498 = .ok (.iaload, 1) := by decide +kernel
theorem dL_law_499 : decode cL_law 499 = .ok (.invokevirtual 59, 3) := by decide +kernel
theorem dL_law_502 : decode cL_law 502 = .ok (.if_icmp .eq 1045, 3) := by decide +kernel
theorem dL_law_505 : decode cL_law 505 = .ok (.iconst 0, 1) := by decide +kernel
theorem dL_law_506 : decode cL_law 506 = .ok (.ireturn, 1) := by decide +kernel
theorem dL_law_507 : decode cL_law 507 = .ok (.aload_n 1, 1) := by decide +kernel
theorem dL_law_508 : decode cL_law 508 = .ok (.aload_n 0, 1) := by decide +kernel
theorem dL_law_509 : decode cL_law 509 = .ok (.iload 4, 2) := by decide +kernel
theorem dL_law_511 : decode cL_law 511 = .ok (.iconst 1, 1) := by decide +kernel
theorem dL_law_512 : decode cL_law 512 = .ok (.iadd, 1) := by decide +kernel
theorem dL_law_513 : decode cL_law 513 = .ok (.iaload, 1) := by decide +kernel
theorem dL_law_514 : decode cL_law 514 = .ok (.aload_n 0, 1) := by decide +kernel
theorem dL_law_515 : decode cL_law 515 = .ok (.iload 4, 2) := by decide +kernel
theorem dL_law_517 : decode cL_law 517 = .ok (.iconst 2, 1) := by decide +kernel
theorem dL_law_518 : decode cL_law 518 = .ok (.iadd, 1) := by decide +kernel
theorem dL_law_519 : decode cL_law 519 = .ok (.iaload, 1) := by decide +kernel
theorem dL_law_520 : decode cL_law 520 = .ok (.invokevirtual 60, 3) := by decide +kernel
theorem dL_law_523 : decode cL_law 523 = .ok (.aload_n 2, 1) := by decide +kernel
theorem dL_law_524 : decode cL_law 524 = .ok (.aload_n 0, 1) := by decide +kernel
theorem dL_law_525 : decode cL_law 525 = .ok (.iload 4, 2) := by decide +kernel
theorem dL_law_527 : decode cL_law 527 = .ok (.iconst 1, 1) := by decide +kernel
theorem dL_law_528 : decode cL_law 528 = .ok (.iadd, 1) := by decide +kernel
theorem dL_law_529 : decode cL_law 529 = .ok (.iaload, 1) := by decide +kernel
theorem dL_law_530 : decode cL_law 530 = .ok (.aload_n 0, 1) := by decide +kernel
theorem dL_law_531 : decode cL_law 531 = .ok (.iload 4, 2) := by decide +kernel
theorem dL_law_533 : decode cL_law 533 = .ok (.iconst 2, 1) := by decide +kernel
theorem dL_law_534 : decode cL_law 534 = .ok (.iadd, 1) := by decide +kernel
theorem dL_law_535 : decode cL_law 535 = .ok (.iaload, 1) := by decide +kernel
theorem dL_law_536 : decode cL_law 536 = .ok (.invokevirtual 63, 3) := by decide +kernel
theorem dL_law_539 : decode cL_law 539 = .ok (.if_icmp .eq 1008, 3) := by decide +kernel
theorem dL_law_542 : decode cL_law 542 = .ok (.iconst 0, 1) := by decide +kernel
theorem dL_law_543 : decode cL_law 543 = .ok (.ireturn, 1) := by decide +kernel
theorem dL_law_544 : decode cL_law 544 = .ok (.aload_n 1, 1) := by decide +kernel
theorem dL_law_545 : decode cL_law 545 = .ok (.aload_n 0, 1) := by decide +kernel
theorem dL_law_546 : decode cL_law 546 = .ok (.iload 4, 2) := by decide +kernel
theorem dL_law_548 : decode cL_law 548 = .ok (.iconst 1, 1) := by decide +kernel
theorem dL_law_549 : decode cL_law 549 = .ok (.iadd, 1) := by decide +kernel
theorem dL_law_550 : decode cL_law 550 = .ok (.iaload, 1) := by decide +kernel
theorem dL_law_551 : decode cL_law 551 = .ok (.invokevirtual 64, 3) := by decide +kernel
theorem dL_law_554 : decode cL_law 554 = .ok (.aload_n 2, 1) := by decide +kernel
theorem dL_law_555 : decode cL_law 555 = .ok (.aload_n 0, 1) := by decide +kernel
theorem dL_law_556 : decode cL_law 556 = .ok (.iload 4, 2) := by decide +kernel
theorem dL_law_558 : decode cL_law 558 = .ok (.iconst 1, 1) := by decide +kernel
theorem dL_law_559 : decode cL_law 559 = .ok (.iadd, 1) := by decide +kernel
theorem dL_law_560 : decode cL_law 560 = .ok (.iaload, 1) := by decide +kernel
theorem dL_law_561 : decode cL_law 561 = .ok (.invokevirtual 67, 3) := by decide +kernel
theorem dL_law_564 : decode cL_law 564 = .ok (.if_icmp .eq 983, 3) := by decide +kernel
theorem dL_law_567 : decode cL_law 567 = .ok (.iconst 0, 1) := by decide +kernel
theorem dL_law_568 : decode cL_law 568 = .ok (.ireturn, 1) := by decide +kernel
theorem dL_law_569 : decode cL_law 569 = .ok (.aload_n 1, 1) := by decide +kernel
theorem dL_law_570 : decode cL_law 570 = .ok (.invokevirtual 68, 3) := by decide +kernel
theorem dL_law_573 : decode cL_law 573 = .ok (.aload_n 2, 1) := by decide +kernel
theorem dL_law_574 : decode cL_law 574 = .ok (.invokevirtual 71, 3) := by decide +kernel
theorem dL_law_577 : decode cL_law 577 = .ok (.if_icmp .eq 970, 3) := by decide +kernel
theorem dL_law_580 : decode cL_law 580 = .ok (.iconst 0, 1) := by decide +kernel
theorem dL_law_581 : decode cL_law 581 = .ok (.ireturn, 1) := by decide +kernel
theorem dL_law_582 : decode cL_law 582 = .ok (.aload_n 1, 1) := by decide +kernel
theorem dL_law_583 : decode cL_law 583 = .ok (.aload_n 0, 1) := by decide +kernel
theorem dL_law_584 : decode cL_law 584 = .ok (.iload 4, 2) := by decide +kernel
theorem dL_law_586 : decode cL_law 586 = .ok (.iconst 1, 1) := by decide +kernel
theorem dL_law_587 : decode cL_law 587 = .ok (.iadd, 1) := by decide +kernel
theorem dL_law_588 : decode cL_law 588 = .ok (.iaload, 1) := by decide +kernel
theorem dL_law_589 : decode cL_law 589 = .ok (.invokevirtual 72, 3) := by decide +kernel
theorem dL_law_592 : decode cL_law 592 = .ok (.aload_n 2, 1) := by decide +kernel
theorem dL_law_593 : decode cL_law 593 = .ok (.aload_n 0, 1) := by decide +kernel
theorem dL_law_594 : decode cL_law 594 = .ok (.iload 4, 2) := by decide +kernel
theorem dL_law_596 : decode cL_law 596 = .ok (.iconst 1, 1) := by decide +kernel
theorem dL_law_597 : decode cL_law 597 = .ok (.iadd, 1) := by decide +kernel
theorem dL_law_598 : decode cL_law 598 = .ok (.iaload, 1) := by decide +kernel
theorem dL_law_599 : decode cL_law 599 = .ok (.invokevirtual 75, 3) := by decide +kernel
theorem dL_law_602 : decode cL_law 602 = .ok (.if_icmp .eq 945, 3) := by decide +kernel
theorem dL_law_605 : decode cL_law 605 = .ok (.iconst 0, 1) := by decide +kernel
theorem dL_law_606 : decode cL_law 606 = .ok (.ireturn, 1) := by decide +kernel
theorem dL_law_607 : decode cL_law 607 = .ok (.aload_n 1, 1) := by decide +kernel
theorem dL_law_608 : decode cL_law 608 = .ok (.aload_n 0, 1) := by decide +kernel
theorem dL_law_609 : decode cL_law 609 = .ok (.iload 4, 2) := by decide +kernel
theorem dL_law_611 : decode cL_law 611 = .ok (.iconst 1, 1) := by decide +kernel
theorem dL_law_612 : decode cL_law 612 = .ok (.iadd, 1) := by decide +kernel
theorem dL_law_613 : decode cL_law 613 = .ok (.iaload, 1) := by decide +kernel
theorem dL_law_614 : decode cL_law 614 = .ok (.aload_n 0, 1) := by decide +kernel
theorem dL_law_615 : decode cL_law 615 = .ok (.iload 4, 2) := by decide +kernel
theorem dL_law_617 : decode cL_law 617 = .ok (.iconst 2, 1) := by decide +kernel
theorem dL_law_618 : decode cL_law 618 = .ok (.iadd, 1) := by decide +kernel
theorem dL_law_619 : decode cL_law 619 = .ok (.iaload, 1) := by decide +kernel
theorem dL_law_620 : decode cL_law 620 = .ok (.invokevirtual 76, 3) := by decide +kernel
theorem dL_law_623 : decode cL_law 623 = .ok (.aload_n 2, 1) := by decide +kernel
theorem dL_law_624 : decode cL_law 624 = .ok (.aload_n 0, 1) := by decide +kernel
theorem dL_law_625 : decode cL_law 625 = .ok (.iload 4, 2) := by decide +kernel
theorem dL_law_627 : decode cL_law 627 = .ok (.iconst 1, 1) := by decide +kernel
theorem dL_law_628 : decode cL_law 628 = .ok (.iadd, 1) := by decide +kernel
theorem dL_law_629 : decode cL_law 629 = .ok (.iaload, 1) := by decide +kernel
theorem dL_law_630 : decode cL_law 630 = .ok (.aload_n 0, 1) := by decide +kernel
theorem dL_law_631 : decode cL_law 631 = .ok (.iload 4, 2) := by decide +kernel
theorem dL_law_633 : decode cL_law 633 = .ok (.iconst 2, 1) := by decide +kernel
theorem dL_law_634 : decode cL_law 634 = .ok (.iadd, 1) := by decide +kernel
theorem dL_law_635 : decode cL_law 635 = .ok (.iaload, 1) := by decide +kernel
theorem dL_law_636 : decode cL_law 636 = .ok (.invokevirtual 79, 3) := by decide +kernel
theorem dL_law_639 : decode cL_law 639 = .ok (.if_icmp .eq 908, 3) := by decide +kernel
theorem dL_law_642 : decode cL_law 642 = .ok (.iconst 0, 1) := by decide +kernel
theorem dL_law_643 : decode cL_law 643 = .ok (.ireturn, 1) := by decide +kernel
theorem dL_law_644 : decode cL_law 644 = .ok (.aload_n 1, 1) := by decide +kernel
theorem dL_law_645 : decode cL_law 645 = .ok (.invokevirtual 80, 3) := by decide +kernel
theorem dL_law_648 : decode cL_law 648 = .ok (.aload_n 2, 1) := by decide +kernel
theorem dL_law_649 : decode cL_law 649 = .ok (.invokevirtual 83, 3) := by decide +kernel
theorem dL_law_652 : decode cL_law 652 = .ok (.if_icmp .eq 895, 3) := by decide +kernel
theorem dL_law_655 : decode cL_law 655 = .ok (.iconst 0, 1) := by decide +kernel
theorem dL_law_656 : decode cL_law 656 = .ok (.ireturn, 1) := by decide +kernel
theorem dL_law_657 : decode cL_law 657 = .ok (.aload_n 1, 1) := by decide +kernel
theorem dL_law_658 : decode cL_law 658 = .ok (.aload_n 0, 1) := by decide +kernel
theorem dL_law_659 : decode cL_law 659 = .ok (.iload 4, 2) := by decide +kernel
theorem dL_law_661 : decode cL_law 661 = .ok (.iconst 1, 1) := by decide +kernel
theorem dL_law_662 : decode cL_law 662 = .ok (.iadd, 1) := by decide +kernel
theorem dL_law_663 : decode cL_law 663 = .ok (.iaload, 1) := by decide +kernel
theorem dL_law_664 : decode cL_law 664 = .ok (.aload_n 0, 1) := by decide +kernel
theorem dL_law_665 : decode cL_law 665 = .ok (.iload 4, 2) := by decide +kernel
theorem dL_law_667 : decode cL_law 667 = .ok (.iconst 2, 1) := by decide +kernel
theorem dL_law_668 : decode cL_law 668 = .ok (.iadd, 1) := by decide +kernel
theorem dL_law_669 : decode cL_law 669 = .ok (.iaload, 1) := by decide +kernel
theorem dL_law_670 : decode cL_law 670 = .ok (.i2l, 1) := by decide +kernel
theorem dL_law_671 : decode cL_law 671 = .ok (.bipush 32, 2) := by decide +kernel
theorem dL_law_673 : decode cL_law 673 = .ok (.lshl, 1) := by decide +kernel
theorem dL_law_674 : decode cL_law 674 = .ok (.aload_n 0, 1) := by decide +kernel
theorem dL_law_675 : decode cL_law 675 = .ok (.iload 4, 2) := by decide +kernel
theorem dL_law_677 : decode cL_law 677 = .ok (.iconst 3, 1) := by decide +kernel
theorem dL_law_678 : decode cL_law 678 = .ok (.iadd, 1) := by decide +kernel
theorem dL_law_679 : decode cL_law 679 = .ok (.iaload, 1) := by decide +kernel
theorem dL_law_680 : decode cL_law 680 = .ok (.i2l, 1) := by decide +kernel
theorem dL_law_681 : decode cL_law 681 = .ok (.ldc2_w 84, 3) := by decide +kernel
theorem dL_law_684 : decode cL_law 684 = .ok (.land, 1) := by decide +kernel
theorem dL_law_685 : decode cL_law 685 = .ok (.lor, 1) := by decide +kernel
theorem dL_law_686 : decode cL_law 686 = .ok (.invokevirtual 86, 3) := by decide +kernel
theorem dL_law_689 : decode cL_law 689 = .ok (.aload_n 2, 1) := by decide +kernel
theorem dL_law_690 : decode cL_law 690 = .ok (.aload_n 0, 1) := by decide +kernel
theorem dL_law_691 : decode cL_law 691 = .ok (.iload 4, 2) := by decide +kernel
theorem dL_law_693 : decode cL_law 693 = .ok (.iconst 1, 1) := by decide +kernel
theorem dL_law_694 : decode cL_law 694 = .ok (.iadd, 1) := by decide +kernel
theorem dL_law_695 : decode cL_law 695 = .ok (.iaload, 1) := by decide +kernel
theorem dL_law_696 : decode cL_law 696 = .ok (.aload_n 0, 1) := by decide +kernel
theorem dL_law_697 : decode cL_law 697 = .ok (.iload 4, 2) := by decide +kernel
theorem dL_law_699 : decode cL_law 699 = .ok (.iconst 2, 1) := by decide +kernel
theorem dL_law_700 : decode cL_law 700 = .ok (.iadd, 1) := by decide +kernel
theorem dL_law_701 : decode cL_law 701 = .ok (.iaload, 1) := by decide +kernel
theorem dL_law_702 : decode cL_law 702 = .ok (.i2l, 1) := by decide +kernel
theorem dL_law_703 : decode cL_law 703 = .ok (.bipush 32, 2) := by decide +kernel
theorem dL_law_705 : decode cL_law 705 = .ok (.lshl, 1) := by decide +kernel
theorem dL_law_706 : decode cL_law 706 = .ok (.aload_n 0, 1) := by decide +kernel
theorem dL_law_707 : decode cL_law 707 = .ok (.iload 4, 2) := by decide +kernel
theorem dL_law_709 : decode cL_law 709 = .ok (.iconst 3, 1) := by decide +kernel
theorem dL_law_710 : decode cL_law 710 = .ok (.iadd, 1) := by decide +kernel
theorem dL_law_711 : decode cL_law 711 = .ok (.iaload, 1) := by decide +kernel
theorem dL_law_712 : decode cL_law 712 = .ok (.i2l, 1) := by decide +kernel
theorem dL_law_713 : decode cL_law 713 = .ok (.ldc2_w 84, 3) := by decide +kernel
theorem dL_law_716 : decode cL_law 716 = .ok (.land, 1) := by decide +kernel
theorem dL_law_717 : decode cL_law 717 = .ok (.lor, 1) := by decide +kernel
theorem dL_law_718 : decode cL_law 718 = .ok (.invokevirtual 90, 3) := by decide +kernel
theorem dL_law_721 : decode cL_law 721 = .ok (.if_icmp .eq 826, 3) := by decide +kernel
theorem dL_law_724 : decode cL_law 724 = .ok (.iconst 0, 1) := by decide +kernel
theorem dL_law_725 : decode cL_law 725 = .ok (.ireturn, 1) := by decide +kernel
theorem dL_law_726 : decode cL_law 726 = .ok (.aload_n 1, 1) := by decide +kernel
theorem dL_law_727 : decode cL_law 727 = .ok (.invokevirtual 91, 3) := by decide +kernel
theorem dL_law_730 : decode cL_law 730 = .ok (.aload_n 2, 1) := by decide +kernel
theorem dL_law_731 : decode cL_law 731 = .ok (.invokevirtual 94, 3) := by decide +kernel
theorem dL_law_734 : decode cL_law 734 = .ok (.if_icmp .eq 813, 3) := by decide +kernel
theorem dL_law_737 : decode cL_law 737 = .ok (.iconst 0, 1) := by decide +kernel
theorem dL_law_738 : decode cL_law 738 = .ok (.ireturn, 1) := by decide +kernel
theorem dL_law_739 : decode cL_law 739 = .ok (.aload_n 1, 1) := by decide +kernel
theorem dL_law_740 : decode cL_law 740 = .ok (.aload_n 0, 1) := by decide +kernel
theorem dL_law_741 : decode cL_law 741 = .ok (.iload 4, 2) := by decide +kernel
theorem dL_law_743 : decode cL_law 743 = .ok (.iconst 1, 1) := by decide +kernel
theorem dL_law_744 : decode cL_law 744 = .ok (.iadd, 1) := by decide +kernel
theorem dL_law_745 : decode cL_law 745 = .ok (.iaload, 1) := by decide +kernel
theorem dL_law_746 : decode cL_law 746 = .ok (.aload_n 0, 1) := by decide +kernel
theorem dL_law_747 : decode cL_law 747 = .ok (.iload 4, 2) := by decide +kernel
theorem dL_law_749 : decode cL_law 749 = .ok (.iconst 2, 1) := by decide +kernel
theorem dL_law_750 : decode cL_law 750 = .ok (.iadd, 1) := by decide +kernel
theorem dL_law_751 : decode cL_law 751 = .ok (.iaload, 1) := by decide +kernel
theorem dL_law_752 : decode cL_law 752 = .ok (.invokevirtual 95, 3) := by decide +kernel
theorem dL_law_755 : decode cL_law 755 = .ok (.aload_n 2, 1) := by decide +kernel
theorem dL_law_756 : decode cL_law 756 = .ok (.aload_n 0, 1) := by decide +kernel
theorem dL_law_757 : decode cL_law 757 = .ok (.iload 4, 2) := by decide +kernel
theorem dL_law_759 : decode cL_law 759 = .ok (.iconst 1, 1) := by decide +kernel
theorem dL_law_760 : decode cL_law 760 = .ok (.iadd, 1) := by decide +kernel
theorem dL_law_761 : decode cL_law 761 = .ok (.iaload, 1) := by decide +kernel
theorem dL_law_762 : decode cL_law 762 = .ok (.aload_n 0, 1) := by decide +kernel
theorem dL_law_763 : decode cL_law 763 = .ok (.iload 4, 2) := by decide +kernel
theorem dL_law_765 : decode cL_law 765 = .ok (.iconst 2, 1) := by decide +kernel
theorem dL_law_766 : decode cL_law 766 = .ok (.iadd, 1) := by decide +kernel
theorem dL_law_767 : decode cL_law 767 = .ok (.iaload, 1) := by decide +kernel
theorem dL_law_768 : decode cL_law 768 = .ok (.invokevirtual 98, 3) := by decide +kernel
theorem dL_law_771 : decode cL_law 771 = .ok (.if_icmp .eq 776, 3) := by decide +kernel
theorem dL_law_774 : decode cL_law 774 = .ok (.iconst 0, 1) := by decide +kernel
theorem dL_law_775 : decode cL_law 775 = .ok (.ireturn, 1) := by decide +kernel
theorem dL_law_776 : decode cL_law 776 = .ok (.aload_n 1, 1) := by decide +kernel
theorem dL_law_777 : decode cL_law 777 = .ok (.aload_n 0, 1) := by decide +kernel
theorem dL_law_778 : decode cL_law 778 = .ok (.iload 4, 2) := by decide +kernel
theorem dL_law_780 : decode cL_law 780 = .ok (.iconst 1, 1) := by decide +kernel
theorem dL_law_781 : decode cL_law 781 = .ok (.iadd, 1) := by decide +kernel
theorem dL_law_782 : decode cL_law 782 = .ok (.iaload, 1) := by decide +kernel
theorem dL_law_783 : decode cL_law 783 = .ok (.aload_n 0, 1) := by decide +kernel
theorem dL_law_784 : decode cL_law 784 = .ok (.iload 4, 2) := by decide +kernel
theorem dL_law_786 : decode cL_law 786 = .ok (.iconst 2, 1) := by decide +kernel
theorem dL_law_787 : decode cL_law 787 = .ok (.iadd, 1) := by decide +kernel
theorem dL_law_788 : decode cL_law 788 = .ok (.iaload, 1) := by decide +kernel
theorem dL_law_789 : decode cL_law 789 = .ok (.aload_n 0, 1) := by decide +kernel
theorem dL_law_790 : decode cL_law 790 = .ok (.iload 4, 2) := by decide +kernel
theorem dL_law_792 : decode cL_law 792 = .ok (.iconst 3, 1) := by decide +kernel
theorem dL_law_793 : decode cL_law 793 = .ok (.iadd, 1) := by decide +kernel
theorem dL_law_794 : decode cL_law 794 = .ok (.iaload, 1) := by decide +kernel
theorem dL_law_795 : decode cL_law 795 = .ok (.invokevirtual 99, 3) := by decide +kernel
theorem dL_law_798 : decode cL_law 798 = .ok (.aload_n 2, 1) := by decide +kernel
theorem dL_law_799 : decode cL_law 799 = .ok (.aload_n 0, 1) := by decide +kernel
theorem dL_law_800 : decode cL_law 800 = .ok (.iload 4, 2) := by decide +kernel
theorem dL_law_802 : decode cL_law 802 = .ok (.iconst 1, 1) := by decide +kernel
theorem dL_law_803 : decode cL_law 803 = .ok (.iadd, 1) := by decide +kernel
theorem dL_law_804 : decode cL_law 804 = .ok (.iaload, 1) := by decide +kernel
theorem dL_law_805 : decode cL_law 805 = .ok (.aload_n 0, 1) := by decide +kernel
theorem dL_law_806 : decode cL_law 806 = .ok (.iload 4, 2) := by decide +kernel
theorem dL_law_808 : decode cL_law 808 = .ok (.iconst 2, 1) := by decide +kernel
theorem dL_law_809 : decode cL_law 809 = .ok (.iadd, 1) := by decide +kernel
theorem dL_law_810 : decode cL_law 810 = .ok (.iaload, 1) := by decide +kernel
theorem dL_law_811 : decode cL_law 811 = .ok (.aload_n 0, 1) := by decide +kernel
theorem dL_law_812 : decode cL_law 812 = .ok (.iload 4, 2) := by decide +kernel
theorem dL_law_814 : decode cL_law 814 = .ok (.iconst 3, 1) := by decide +kernel
theorem dL_law_815 : decode cL_law 815 = .ok (.iadd, 1) := by decide +kernel
theorem dL_law_816 : decode cL_law 816 = .ok (.iaload, 1) := by decide +kernel
theorem dL_law_817 : decode cL_law 817 = .ok (.invokevirtual 103, 3) := by decide +kernel
theorem dL_law_820 : decode cL_law 820 = .ok (.if_icmp .eq 727, 3) := by decide +kernel
theorem dL_law_823 : decode cL_law 823 = .ok (.iconst 0, 1) := by decide +kernel
theorem dL_law_824 : decode cL_law 824 = .ok (.ireturn, 1) := by decide +kernel
theorem dL_law_825 : decode cL_law 825 = .ok (.aload_n 1, 1) := by decide +kernel
theorem dL_law_826 : decode cL_law 826 = .ok (.aload_n 0, 1) := by decide +kernel
theorem dL_law_827 : decode cL_law 827 = .ok (.iload 4, 2) := by decide +kernel
theorem dL_law_829 : decode cL_law 829 = .ok (.iconst 1, 1) := by decide +kernel
theorem dL_law_830 : decode cL_law 830 = .ok (.iadd, 1) := by decide +kernel
theorem dL_law_831 : decode cL_law 831 = .ok (.iaload, 1) := by decide +kernel
theorem dL_law_832 : decode cL_law 832 = .ok (.aload_n 0, 1) := by decide +kernel
theorem dL_law_833 : decode cL_law 833 = .ok (.iload 4, 2) := by decide +kernel
theorem dL_law_835 : decode cL_law 835 = .ok (.iconst 2, 1) := by decide +kernel
theorem dL_law_836 : decode cL_law 836 = .ok (.iadd, 1) := by decide +kernel
theorem dL_law_837 : decode cL_law 837 = .ok (.iaload, 1) := by decide +kernel
theorem dL_law_838 : decode cL_law 838 = .ok (.invokevirtual 104, 3) := by decide +kernel
theorem dL_law_841 : decode cL_law 841 = .ok (.aload_n 2, 1) := by decide +kernel
theorem dL_law_842 : decode cL_law 842 = .ok (.aload_n 0, 1) := by decide +kernel
theorem dL_law_843 : decode cL_law 843 = .ok (.iload 4, 2) := by decide +kernel
theorem dL_law_845 : decode cL_law 845 = .ok (.iconst 1, 1) := by decide +kernel
theorem dL_law_846 : decode cL_law 846 = .ok (.iadd, 1) := by decide +kernel
theorem dL_law_847 : decode cL_law 847 = .ok (.iaload, 1) := by decide +kernel
theorem dL_law_848 : decode cL_law 848 = .ok (.aload_n 0, 1) := by decide +kernel
theorem dL_law_849 : decode cL_law 849 = .ok (.iload 4, 2) := by decide +kernel
theorem dL_law_851 : decode cL_law 851 = .ok (.iconst 2, 1) := by decide +kernel
theorem dL_law_852 : decode cL_law 852 = .ok (.iadd, 1) := by decide +kernel
theorem dL_law_853 : decode cL_law 853 = .ok (.iaload, 1) := by decide +kernel
theorem dL_law_854 : decode cL_law 854 = .ok (.invokevirtual 107, 3) := by decide +kernel
theorem dL_law_857 : decode cL_law 857 = .ok (.if_icmp .eq 690, 3) := by decide +kernel
theorem dL_law_860 : decode cL_law 860 = .ok (.iconst 0, 1) := by decide +kernel
theorem dL_law_861 : decode cL_law 861 = .ok (.ireturn, 1) := by decide +kernel
theorem dL_law_862 : decode cL_law 862 = .ok (.aload_n 1, 1) := by decide +kernel
theorem dL_law_863 : decode cL_law 863 = .ok (.aload_n 0, 1) := by decide +kernel
theorem dL_law_864 : decode cL_law 864 = .ok (.iload 4, 2) := by decide +kernel
theorem dL_law_866 : decode cL_law 866 = .ok (.iconst 1, 1) := by decide +kernel
theorem dL_law_867 : decode cL_law 867 = .ok (.iadd, 1) := by decide +kernel
theorem dL_law_868 : decode cL_law 868 = .ok (.iaload, 1) := by decide +kernel
theorem dL_law_869 : decode cL_law 869 = .ok (.invokevirtual 108, 3) := by decide +kernel
theorem dL_law_872 : decode cL_law 872 = .ok (.aload_n 2, 1) := by decide +kernel
theorem dL_law_873 : decode cL_law 873 = .ok (.aload_n 0, 1) := by decide +kernel
theorem dL_law_874 : decode cL_law 874 = .ok (.iload 4, 2) := by decide +kernel
theorem dL_law_876 : decode cL_law 876 = .ok (.iconst 1, 1) := by decide +kernel
theorem dL_law_877 : decode cL_law 877 = .ok (.iadd, 1) := by decide +kernel
theorem dL_law_878 : decode cL_law 878 = .ok (.iaload, 1) := by decide +kernel
theorem dL_law_879 : decode cL_law 879 = .ok (.invokevirtual 111, 3) := by decide +kernel
theorem dL_law_882 : decode cL_law 882 = .ok (.if_icmp .eq 665, 3) := by decide +kernel
theorem dL_law_885 : decode cL_law 885 = .ok (.iconst 0, 1) := by decide +kernel
theorem dL_law_886 : decode cL_law 886 = .ok (.ireturn, 1) := by decide +kernel
theorem dL_law_887 : decode cL_law 887 = .ok (.aload_n 1, 1) := by decide +kernel
theorem dL_law_888 : decode cL_law 888 = .ok (.aload_n 0, 1) := by decide +kernel
theorem dL_law_889 : decode cL_law 889 = .ok (.iload 4, 2) := by decide +kernel
theorem dL_law_891 : decode cL_law 891 = .ok (.iconst 1, 1) := by decide +kernel
theorem dL_law_892 : decode cL_law 892 = .ok (.iadd, 1) := by decide +kernel
theorem dL_law_893 : decode cL_law 893 = .ok (.iaload, 1) := by decide +kernel
theorem dL_law_894 : decode cL_law 894 = .ok (.invokevirtual 112, 3) := by decide +kernel
theorem dL_law_897 : decode cL_law 897 = .ok (.aload_n 2, 1) := by decide +kernel
theorem dL_law_898 : decode cL_law 898 = .ok (.aload_n 0, 1) := by decide +kernel
theorem dL_law_899 : decode cL_law 899 = .ok (.iload 4, 2) := by decide +kernel
theorem dL_law_901 : decode cL_law 901 = .ok (.iconst 1, 1) := by decide +kernel
theorem dL_law_902 : decode cL_law 902 = .ok (.iadd, 1) := by decide +kernel
theorem dL_law_903 : decode cL_law 903 = .ok (.iaload, 1) := by decide +kernel
theorem dL_law_904 : decode cL_law 904 = .ok (.invokevirtual 115, 3) := by decide +kernel
theorem dL_law_907 : decode cL_law 907 = .ok (.if_icmp .eq 640, 3) := by decide +kernel
theorem dL_law_910 : decode cL_law 910 = .ok (.iconst 0, 1) := by decide +kernel
theorem dL_law_911 : decode cL_law 911 = .ok (.ireturn, 1) := by decide +kernel
theorem dL_law_912 : decode cL_law 912 = .ok (.aload_n 1, 1) := by decide +kernel
theorem dL_law_913 : decode cL_law 913 = .ok (.aload_n 0, 1) := by decide +kernel
theorem dL_law_914 : decode cL_law 914 = .ok (.iload 4, 2) := by decide +kernel
theorem dL_law_916 : decode cL_law 916 = .ok (.iconst 1, 1) := by decide +kernel
theorem dL_law_917 : decode cL_law 917 = .ok (.iadd, 1) := by decide +kernel
theorem dL_law_918 : decode cL_law 918 = .ok (.iaload, 1) := by decide +kernel
theorem dL_law_919 : decode cL_law 919 = .ok (.invokevirtual 116, 3) := by decide +kernel
theorem dL_law_922 : decode cL_law 922 = .ok (.aload_n 2, 1) := by decide +kernel
theorem dL_law_923 : decode cL_law 923 = .ok (.aload_n 0, 1) := by decide +kernel
theorem dL_law_924 : decode cL_law 924 = .ok (.iload 4, 2) := by decide +kernel
theorem dL_law_926 : decode cL_law 926 = .ok (.iconst 1, 1) := by decide +kernel
theorem dL_law_927 : decode cL_law 927 = .ok (.iadd, 1) := by decide +kernel
theorem dL_law_928 : decode cL_law 928 = .ok (.iaload, 1) := by decide +kernel
theorem dL_law_929 : decode cL_law 929 = .ok (.invokevirtual 119, 3) := by decide +kernel
theorem dL_law_932 : decode cL_law 932 = .ok (.if_icmp .eq 615, 3) := by decide +kernel
theorem dL_law_935 : decode cL_law 935 = .ok (.iconst 0, 1) := by decide +kernel
theorem dL_law_936 : decode cL_law 936 = .ok (.ireturn, 1) := by decide +kernel
theorem dL_law_937 : decode cL_law 937 = .ok (.aload_n 1, 1) := by decide +kernel
theorem dL_law_938 : decode cL_law 938 = .ok (.aload_n 0, 1) := by decide +kernel
theorem dL_law_939 : decode cL_law 939 = .ok (.iload 4, 2) := by decide +kernel
theorem dL_law_941 : decode cL_law 941 = .ok (.iconst 1, 1) := by decide +kernel
theorem dL_law_942 : decode cL_law 942 = .ok (.iadd, 1) := by decide +kernel
theorem dL_law_943 : decode cL_law 943 = .ok (.iaload, 1) := by decide +kernel
theorem dL_law_944 : decode cL_law 944 = .ok (.aload_n 0, 1) := by decide +kernel
theorem dL_law_945 : decode cL_law 945 = .ok (.iload 4, 2) := by decide +kernel
theorem dL_law_947 : decode cL_law 947 = .ok (.iconst 2, 1) := by decide +kernel
theorem dL_law_948 : decode cL_law 948 = .ok (.iadd, 1) := by decide +kernel
theorem dL_law_949 : decode cL_law 949 = .ok (.iaload, 1) := by decide +kernel
theorem dL_law_950 : decode cL_law 950 = .ok (.invokevirtual 120, 3) := by decide +kernel
theorem dL_law_953 : decode cL_law 953 = .ok (.aload_n 2, 1) := by decide +kernel
theorem dL_law_954 : decode cL_law 954 = .ok (.aload_n 0, 1) := by decide +kernel
theorem dL_law_955 : decode cL_law 955 = .ok (.iload 4, 2) := by decide +kernel
theorem dL_law_957 : decode cL_law 957 = .ok (.iconst 1, 1) := by decide +kernel
theorem dL_law_958 : decode cL_law 958 = .ok (.iadd, 1) := by decide +kernel
theorem dL_law_959 : decode cL_law 959 = .ok (.iaload, 1) := by decide +kernel
theorem dL_law_960 : decode cL_law 960 = .ok (.aload_n 0, 1) := by decide +kernel
theorem dL_law_961 : decode cL_law 961 = .ok (.iload 4, 2) := by decide +kernel
theorem dL_law_963 : decode cL_law 963 = .ok (.iconst 2, 1) := by decide +kernel
theorem dL_law_964 : decode cL_law 964 = .ok (.iadd, 1) := by decide +kernel
theorem dL_law_965 : decode cL_law 965 = .ok (.iaload, 1) := by decide +kernel
theorem dL_law_966 : decode cL_law 966 = .ok (.invokevirtual 123, 3) := by decide +kernel
theorem dL_law_969 : decode cL_law 969 = .ok (.if_icmp .eq 578, 3) := by decide +kernel
theorem dL_law_972 : decode cL_law 972 = .ok (.iconst 0, 1) := by decide +kernel
theorem dL_law_973 : decode cL_law 973 = .ok (.ireturn, 1) := by decide +kernel
theorem dL_law_974 : decode cL_law 974 = .ok (.aload_n 1, 1) := by decide +kernel
theorem dL_law_975 : decode cL_law 975 = .ok (.aload_n 0, 1) := by decide +kernel
theorem dL_law_976 : decode cL_law 976 = .ok (.iload 4, 2) := by decide +kernel
theorem dL_law_978 : decode cL_law 978 = .ok (.iconst 1, 1) := by decide +kernel
theorem dL_law_979 : decode cL_law 979 = .ok (.iadd, 1) := by decide +kernel
theorem dL_law_980 : decode cL_law 980 = .ok (.iaload, 1) := by decide +kernel
theorem dL_law_981 : decode cL_law 981 = .ok (.invokevirtual 124, 3) := by decide +kernel
theorem dL_law_984 : decode cL_law 984 = .ok (.aload_n 2, 1) := by decide +kernel
theorem dL_law_985 : decode cL_law 985 = .ok (.aload_n 0, 1) := by decide +kernel
theorem dL_law_986 : decode cL_law 986 = .ok (.iload 4, 2) := by decide +kernel
theorem dL_law_988 : decode cL_law 988 = .ok (.iconst 1, 1) := by decide +kernel
theorem dL_law_989 : decode cL_law 989 = .ok (.iadd, 1) := by decide +kernel
theorem dL_law_990 : decode cL_law 990 = .ok (.iaload, 1) := by decide +kernel
theorem dL_law_991 : decode cL_law 991 = .ok (.invokevirtual 127, 3) := by decide +kernel
theorem dL_law_994 : decode cL_law 994 = .ok (.if_icmp .eq 553, 3) := by decide +kernel
theorem dL_law_997 : decode cL_law 997 = .ok (.iconst 0, 1) := by decide +kernel
theorem dL_law_998 : decode cL_law 998 = .ok (.ireturn, 1) := by decide +kernel
theorem dL_law_999 : decode cL_law 999 = .ok (.aload_n 1, 1) := by decide +kernel
theorem dL_law_1000 : decode cL_law 1000 = .ok (.aload_n 0, 1) := by decide +kernel
theorem dL_law_1001 : decode cL_law 1001 = .ok (.iload 4, 2) := by decide +kernel
theorem dL_law_1003 : decode cL_law 1003 = .ok (.iconst 1, 1) := by decide +kernel
theorem dL_law_1004 : decode cL_law 1004 = .ok (.iadd, 1) := by decide +kernel
theorem dL_law_1005 : decode cL_law 1005 = .ok (.iaload, 1) := by decide +kernel
theorem dL_law_1006 : decode cL_law 1006 = .ok (.aload_n 0, 1) := by decide +kernel
theorem dL_law_1007 : decode cL_law 1007 = .ok (.iload 4, 2) := by decide +kernel
theorem dL_law_1009 : decode cL_law 1009 = .ok (.iconst 2, 1) := by decide +kernel
theorem dL_law_1010 : decode cL_law 1010 = .ok (.iadd, 1) := by decide +kernel
theorem dL_law_1011 : decode cL_law 1011 = .ok (.iaload, 1) := by decide +kernel
theorem dL_law_1012 : decode cL_law 1012 = .ok (.aload_n 0, 1) := by decide +kernel
theorem dL_law_1013 : decode cL_law 1013 = .ok (.iload 4, 2) := by decide +kernel
theorem dL_law_1015 : decode cL_law 1015 = .ok (.iconst 3, 1) := by decide +kernel
theorem dL_law_1016 : decode cL_law 1016 = .ok (.iadd, 1) := by decide +kernel
theorem dL_law_1017 : decode cL_law 1017 = .ok (.iaload, 1) := by decide +kernel
theorem dL_law_1018 : decode cL_law 1018 = .ok (.ifCond .eq 7, 3) := by decide +kernel
theorem dL_law_1021 : decode cL_law 1021 = .ok (.iconst 1, 1) := by decide +kernel
theorem dL_law_1022 : decode cL_law 1022 = .ok (.goto 4, 3) := by decide +kernel
theorem dL_law_1025 : decode cL_law 1025 = .ok (.iconst 0, 1) := by decide +kernel
theorem dL_law_1026 : decode cL_law 1026 = .ok (.invokevirtual 128, 3) := by decide +kernel
theorem dL_law_1029 : decode cL_law 1029 = .ok (.aload_n 2, 1) := by decide +kernel
theorem dL_law_1030 : decode cL_law 1030 = .ok (.aload_n 0, 1) := by decide +kernel
theorem dL_law_1031 : decode cL_law 1031 = .ok (.iload 4, 2) := by decide +kernel
theorem dL_law_1033 : decode cL_law 1033 = .ok (.iconst 1, 1) := by decide +kernel
theorem dL_law_1034 : decode cL_law 1034 = .ok (.iadd, 1) := by decide +kernel
theorem dL_law_1035 : decode cL_law 1035 = .ok (.iaload, 1) := by decide +kernel
theorem dL_law_1036 : decode cL_law 1036 = .ok (.aload_n 0, 1) := by decide +kernel
theorem dL_law_1037 : decode cL_law 1037 = .ok (.iload 4, 2) := by decide +kernel
theorem dL_law_1039 : decode cL_law 1039 = .ok (.iconst 2, 1) := by decide +kernel
theorem dL_law_1040 : decode cL_law 1040 = .ok (.iadd, 1) := by decide +kernel
theorem dL_law_1041 : decode cL_law 1041 = .ok (.iaload, 1) := by decide +kernel
theorem dL_law_1042 : decode cL_law 1042 = .ok (.aload_n 0, 1) := by decide +kernel
theorem dL_law_1043 : decode cL_law 1043 = .ok (.iload 4, 2) := by decide +kernel
theorem dL_law_1045 : decode cL_law 1045 = .ok (.iconst 3, 1) := by decide +kernel
theorem dL_law_1046 : decode cL_law 1046 = .ok (.iadd, 1) := by decide +kernel
theorem dL_law_1047 : decode cL_law 1047 = .ok (.iaload, 1) := by decide +kernel
theorem dL_law_1048 : decode cL_law 1048 = .ok (.ifCond .eq 7, 3) := by decide +kernel
theorem dL_law_1051 : decode cL_law 1051 = .ok (.iconst 1, 1) := by decide +kernel
theorem dL_law_1052 : decode cL_law 1052 = .ok (.goto 4, 3) := by decide +kernel
theorem dL_law_1055 : decode cL_law 1055 = .ok (.iconst 0, 1) := by decide +kernel
theorem dL_law_1056 : decode cL_law 1056 = .ok (.invokevirtual 132, 3) := by decide +kernel
theorem dL_law_1059 : decode cL_law 1059 = .ok (.if_icmp .eq 488, 3) := by decide +kernel
theorem dL_law_1062 : decode cL_law 1062 = .ok (.iconst 0, 1) := by decide +kernel
theorem dL_law_1063 : decode cL_law 1063 = .ok (.ireturn, 1) := by decide +kernel
theorem dL_law_1064 : decode cL_law 1064 = .ok (.aload_n 1, 1) := by decide +kernel
theorem dL_law_1065 : decode cL_law 1065 = .ok (.aload_n 0, 1) := by decide +kernel
theorem dL_law_1066 : decode cL_law 1066 = .ok (.iload 4, 2) := by decide +kernel
theorem dL_law_1068 : decode cL_law 1068 = .ok (.iconst 1, 1) := by decide +kernel
theorem dL_law_1069 : decode cL_law 1069 = .ok (.iadd, 1) := by decide +kernel
theorem dL_law_1070 : decode cL_law 1070 = .ok (.iaload, 1) := by decide +kernel
theorem dL_law_1071 : decode cL_law 1071 = .ok (.aload_n 0, 1) := by decide +kernel
theorem dL_law_1072 : decode cL_law 1072 = .ok (.iload 4, 2) := by decide +kernel
theorem dL_law_1074 : decode cL_law 1074 = .ok (.iconst 2, 1) := by decide +kernel
theorem dL_law_1075 : decode cL_law 1075 = .ok (.iadd, 1) := by decide +kernel
theorem dL_law_1076 : decode cL_law 1076 = .ok (.iaload, 1) := by decide +kernel
theorem dL_law_1077 : decode cL_law 1077 = .ok (.invokevirtual 133, 3) := by decide +kernel
theorem dL_law_1080 : decode cL_law 1080 = .ok (.aload_n 2, 1) := by decide +kernel
theorem dL_law_1081 : decode cL_law 1081 = .ok (.aload_n 0, 1) := by decide +kernel
theorem dL_law_1082 : decode cL_law 1082 = .ok (.iload 4, 2) := by decide +kernel
theorem dL_law_1084 : decode cL_law 1084 = .ok (.iconst 1, 1) := by decide +kernel
theorem dL_law_1085 : decode cL_law 1085 = .ok (.iadd, 1) := by decide +kernel
theorem dL_law_1086 : decode cL_law 1086 = .ok (.iaload, 1) := by decide +kernel
theorem dL_law_1087 : decode cL_law 1087 = .ok (.aload_n 0, 1) := by decide +kernel
theorem dL_law_1088 : decode cL_law 1088 = .ok (.iload 4, 2) := by decide +kernel
theorem dL_law_1090 : decode cL_law 1090 = .ok (.iconst 2, 1) := by decide +kernel
theorem dL_law_1091 : decode cL_law 1091 = .ok (.iadd, 1) := by decide +kernel
theorem dL_law_1092 : decode cL_law 1092 = .ok (.iaload, 1) := by decide +kernel
theorem dL_law_1093 : decode cL_law 1093 = .ok (.invokevirtual 136, 3) := by decide +kernel
theorem dL_law_1096 : decode cL_law 1096 = .ok (.if_icmp .eq 451, 3) := by decide +kernel
theorem dL_law_1099 : decode cL_law 1099 = .ok (.iconst 0, 1) := by decide +kernel
theorem dL_law_1100 : decode cL_law 1100 = .ok (.ireturn, 1) := by decide +kernel
theorem dL_law_1101 : decode cL_law 1101 = .ok (.aload_n 1, 1) := by decide +kernel
theorem dL_law_1102 : decode cL_law 1102 = .ok (.aload_n 0, 1) := by decide +kernel
theorem dL_law_1103 : decode cL_law 1103 = .ok (.iload 4, 2) := by decide +kernel
theorem dL_law_1105 : decode cL_law 1105 = .ok (.iconst 1, 1) := by decide +kernel
theorem dL_law_1106 : decode cL_law 1106 = .ok (.iadd, 1) := by decide +kernel
theorem dL_law_1107 : decode cL_law 1107 = .ok (.iaload, 1) := by decide +kernel
theorem dL_law_1108 : decode cL_law 1108 = .ok (.aload_n 0, 1) := by decide +kernel
theorem dL_law_1109 : decode cL_law 1109 = .ok (.iload 4, 2) := by decide +kernel
theorem dL_law_1111 : decode cL_law 1111 = .ok (.iconst 2, 1) := by decide +kernel
theorem dL_law_1112 : decode cL_law 1112 = .ok (.iadd, 1) := by decide +kernel
theorem dL_law_1113 : decode cL_law 1113 = .ok (.iaload, 1) := by decide +kernel
theorem dL_law_1114 : decode cL_law 1114 = .ok (.invokevirtual 137, 3) := by decide +kernel
theorem dL_law_1117 : decode cL_law 1117 = .ok (.aload_n 2, 1) := by decide +kernel
theorem dL_law_1118 : decode cL_law 1118 = .ok (.aload_n 0, 1) := by decide +kernel
theorem dL_law_1119 : decode cL_law 1119 = .ok (.iload 4, 2) := by decide +kernel
theorem dL_law_1121 : decode cL_law 1121 = .ok (.iconst 1, 1) := by decide +kernel
theorem dL_law_1122 : decode cL_law 1122 = .ok (.iadd, 1) := by decide +kernel
theorem dL_law_1123 : decode cL_law 1123 = .ok (.iaload, 1) := by decide +kernel
theorem dL_law_1124 : decode cL_law 1124 = .ok (.aload_n 0, 1) := by decide +kernel
theorem dL_law_1125 : decode cL_law 1125 = .ok (.iload 4, 2) := by decide +kernel
theorem dL_law_1127 : decode cL_law 1127 = .ok (.iconst 2, 1) := by decide +kernel
theorem dL_law_1128 : decode cL_law 1128 = .ok (.iadd, 1) := by decide +kernel
theorem dL_law_1129 : decode cL_law 1129 = .ok (.iaload, 1) := by decide +kernel
theorem dL_law_1130 : decode cL_law 1130 = .ok (.invokevirtual 140, 3) := by decide +kernel
theorem dL_law_1133 : decode cL_law 1133 = .ok (.if_icmp .eq 414, 3) := by decide +kernel
theorem dL_law_1136 : decode cL_law 1136 = .ok (.iconst 0, 1) := by decide +kernel
theorem dL_law_1137 : decode cL_law 1137 = .ok (.ireturn, 1) := by decide +kernel
theorem dL_law_1138 : decode cL_law 1138 = .ok (.aload_n 1, 1) := by decide +kernel
theorem dL_law_1139 : decode cL_law 1139 = .ok (.aload_n 0, 1) := by decide +kernel
theorem dL_law_1140 : decode cL_law 1140 = .ok (.iload 4, 2) := by decide +kernel
theorem dL_law_1142 : decode cL_law 1142 = .ok (.iconst 1, 1) := by decide +kernel
theorem dL_law_1143 : decode cL_law 1143 = .ok (.iadd, 1) := by decide +kernel
theorem dL_law_1144 : decode cL_law 1144 = .ok (.iaload, 1) := by decide +kernel
theorem dL_law_1145 : decode cL_law 1145 = .ok (.invokevirtual 141, 3) := by decide +kernel
theorem dL_law_1148 : decode cL_law 1148 = .ok (.aload_n 2, 1) := by decide +kernel
theorem dL_law_1149 : decode cL_law 1149 = .ok (.aload_n 0, 1) := by decide +kernel
theorem dL_law_1150 : decode cL_law 1150 = .ok (.iload 4, 2) := by decide +kernel
theorem dL_law_1152 : decode cL_law 1152 = .ok (.iconst 1, 1) := by decide +kernel
theorem dL_law_1153 : decode cL_law 1153 = .ok (.iadd, 1) := by decide +kernel
theorem dL_law_1154 : decode cL_law 1154 = .ok (.iaload, 1) := by decide +kernel
theorem dL_law_1155 : decode cL_law 1155 = .ok (.invokevirtual 144, 3) := by decide +kernel
theorem dL_law_1158 : decode cL_law 1158 = .ok (.if_icmp .eq 389, 3) := by decide +kernel
theorem dL_law_1161 : decode cL_law 1161 = .ok (.iconst 0, 1) := by decide +kernel
theorem dL_law_1162 : decode cL_law 1162 = .ok (.ireturn, 1) := by decide +kernel
theorem dL_law_1163 : decode cL_law 1163 = .ok (.aload_n 1, 1) := by decide +kernel
theorem dL_law_1164 : decode cL_law 1164 = .ok (.aload_n 0, 1) := by decide +kernel
theorem dL_law_1165 : decode cL_law 1165 = .ok (.iload 4, 2) := by decide +kernel
theorem dL_law_1167 : decode cL_law 1167 = .ok (.iconst 1, 1) := by decide +kernel
theorem dL_law_1168 : decode cL_law 1168 = .ok (.iadd, 1) := by decide +kernel
theorem dL_law_1169 : decode cL_law 1169 = .ok (.iaload, 1) := by decide +kernel
theorem dL_law_1170 : decode cL_law 1170 = .ok (.invokevirtual 145, 3) := by decide +kernel
theorem dL_law_1173 : decode cL_law 1173 = .ok (.aload_n 2, 1) := by decide +kernel
theorem dL_law_1174 : decode cL_law 1174 = .ok (.aload_n 0, 1) := by decide +kernel
theorem dL_law_1175 : decode cL_law 1175 = .ok (.iload 4, 2) := by decide +kernel
theorem dL_law_1177 : decode cL_law 1177 = .ok (.iconst 1, 1) := by decide +kernel
theorem dL_law_1178 : decode cL_law 1178 = .ok (.iadd, 1) := by decide +kernel
theorem dL_law_1179 : decode cL_law 1179 = .ok (.iaload, 1) := by decide +kernel
theorem dL_law_1180 : decode cL_law 1180 = .ok (.invokevirtual 148, 3) := by decide +kernel
theorem dL_law_1183 : decode cL_law 1183 = .ok (.if_icmp .eq 364, 3) := by decide +kernel
theorem dL_law_1186 : decode cL_law 1186 = .ok (.iconst 0, 1) := by decide +kernel
theorem dL_law_1187 : decode cL_law 1187 = .ok (.ireturn, 1) := by decide +kernel
theorem dL_law_1188 : decode cL_law 1188 = .ok (.aload_n 1, 1) := by decide +kernel
theorem dL_law_1189 : decode cL_law 1189 = .ok (.aload_n 0, 1) := by decide +kernel
theorem dL_law_1190 : decode cL_law 1190 = .ok (.iload 4, 2) := by decide +kernel
theorem dL_law_1192 : decode cL_law 1192 = .ok (.iconst 1, 1) := by decide +kernel
theorem dL_law_1193 : decode cL_law 1193 = .ok (.iadd, 1) := by decide +kernel
theorem dL_law_1194 : decode cL_law 1194 = .ok (.iaload, 1) := by decide +kernel
theorem dL_law_1195 : decode cL_law 1195 = .ok (.aload_n 0, 1) := by decide +kernel
theorem dL_law_1196 : decode cL_law 1196 = .ok (.iload 4, 2) := by decide +kernel
theorem dL_law_1198 : decode cL_law 1198 = .ok (.iconst 2, 1) := by decide +kernel
theorem dL_law_1199 : decode cL_law 1199 = .ok (.iadd, 1) := by decide +kernel
theorem dL_law_1200 : decode cL_law 1200 = .ok (.iaload, 1) := by decide +kernel
theorem dL_law_1201 : decode cL_law 1201 = .ok (.invokevirtual 149, 3) := by decide +kernel
theorem dL_law_1204 : decode cL_law 1204 = .ok (.aload_n 2, 1) := by decide +kernel
theorem dL_law_1205 : decode cL_law 1205 = .ok (.aload_n 0, 1) := by decide +kernel
theorem dL_law_1206 : decode cL_law 1206 = .ok (.iload 4, 2) := by decide +kernel
theorem dL_law_1208 : decode cL_law 1208 = .ok (.iconst 1, 1) := by decide +kernel
theorem dL_law_1209 : decode cL_law 1209 = .ok (.iadd, 1) := by decide +kernel
theorem dL_law_1210 : decode cL_law 1210 = .ok (.iaload, 1) := by decide +kernel
theorem dL_law_1211 : decode cL_law 1211 = .ok (.aload_n 0, 1) := by decide +kernel
theorem dL_law_1212 : decode cL_law 1212 = .ok (.iload 4, 2) := by decide +kernel
theorem dL_law_1214 : decode cL_law 1214 = .ok (.iconst 2, 1) := by decide +kernel
theorem dL_law_1215 : decode cL_law 1215 = .ok (.iadd, 1) := by decide +kernel
theorem dL_law_1216 : decode cL_law 1216 = .ok (.iaload, 1) := by decide +kernel
theorem dL_law_1217 : decode cL_law 1217 = .ok (.invokevirtual 152, 3) := by decide +kernel
theorem dL_law_1220 : decode cL_law 1220 = .ok (.if_icmp .eq 327, 3) := by decide +kernel
theorem dL_law_1223 : decode cL_law 1223 = .ok (.iconst 0, 1) := by decide +kernel
theorem dL_law_1224 : decode cL_law 1224 = .ok (.ireturn, 1) := by decide +kernel
theorem dL_law_1225 : decode cL_law 1225 = .ok (.aload_n 1, 1) := by decide +kernel
theorem dL_law_1226 : decode cL_law 1226 = .ok (.aload_n 0, 1) := by decide +kernel
theorem dL_law_1227 : decode cL_law 1227 = .ok (.iload 4, 2) := by decide +kernel
theorem dL_law_1229 : decode cL_law 1229 = .ok (.iconst 1, 1) := by decide +kernel
theorem dL_law_1230 : decode cL_law 1230 = .ok (.iadd, 1) := by decide +kernel
theorem dL_law_1231 : decode cL_law 1231 = .ok (.iaload, 1) := by decide +kernel
theorem dL_law_1232 : decode cL_law 1232 = .ok (.aload_n 0, 1) := by decide +kernel
theorem dL_law_1233 : decode cL_law 1233 = .ok (.iload 4, 2) := by decide +kernel
theorem dL_law_1235 : decode cL_law 1235 = .ok (.iconst 2, 1) := by decide +kernel
theorem dL_law_1236 : decode cL_law 1236 = .ok (.iadd, 1) := by decide +kernel
theorem dL_law_1237 : decode cL_law 1237 = .ok (.iaload, 1) := by decide +kernel
theorem dL_law_1238 : decode cL_law 1238 = .ok (.aload_n 0, 1) := by decide +kernel
theorem dL_law_1239 : decode cL_law 1239 = .ok (.iload 4, 2) := by decide +kernel
theorem dL_law_1241 : decode cL_law 1241 = .ok (.iconst 3, 1) := by decide +kernel
theorem dL_law_1242 : decode cL_law 1242 = .ok (.iadd, 1) := by decide +kernel
theorem dL_law_1243 : decode cL_law 1243 = .ok (.iaload, 1) := by decide +kernel
theorem dL_law_1244 : decode cL_law 1244 = .ok (.aload_n 0, 1) := by decide +kernel
theorem dL_law_1245 : decode cL_law 1245 = .ok (.iload 4, 2) := by decide +kernel
theorem dL_law_1247 : decode cL_law 1247 = .ok (.iconst 4, 1) := by decide +kernel
theorem dL_law_1248 : decode cL_law 1248 = .ok (.iadd, 1) := by decide +kernel
theorem dL_law_1249 : decode cL_law 1249 = .ok (.iaload, 1) := by decide +kernel
theorem dL_law_1250 : decode cL_law 1250 = .ok (.aload_n 0, 1) := by decide +kernel
theorem dL_law_1251 : decode cL_law 1251 = .ok (.iload 4, 2) := by decide +kernel
theorem dL_law_1253 : decode cL_law 1253 = .ok (.iconst 5, 1) := by decide +kernel
theorem dL_law_1254 : decode cL_law 1254 = .ok (.iadd, 1) := by decide +kernel
theorem dL_law_1255 : decode cL_law 1255 = .ok (.iaload, 1) := by decide +kernel
theorem dL_law_1256 : decode cL_law 1256 = .ok (.invokevirtual 153, 3) := by decide +kernel
theorem dL_law_1259 : decode cL_law 1259 = .ok (.aload_n 2, 1) := by decide +kernel
theorem dL_law_1260 : decode cL_law 1260 = .ok (.aload_n 0, 1) := by decide +kernel
theorem dL_law_1261 : decode cL_law 1261 = .ok (.iload 4, 2) := by decide +kernel
theorem dL_law_1263 : decode cL_law 1263 = .ok (.iconst 1, 1) := by decide +kernel
theorem dL_law_1264 : decode cL_law 1264 = .ok (.iadd, 1) := by decide +kernel
theorem dL_law_1265 : decode cL_law 1265 = .ok (.iaload, 1) := by decide +kernel
theorem dL_law_1266 : decode cL_law 1266 = .ok (.aload_n 0, 1) := by decide +kernel
theorem dL_law_1267 : decode cL_law 1267 = .ok (.iload 4, 2) := by decide +kernel
theorem dL_law_1269 : decode cL_law 1269 = .ok (.iconst 2, 1) := by decide +kernel
theorem dL_law_1270 : decode cL_law 1270 = .ok (.iadd, 1) := by decide +kernel
theorem dL_law_1271 : decode cL_law 1271 = .ok (.iaload, 1) := by decide +kernel
theorem dL_law_1272 : decode cL_law 1272 = .ok (.aload_n 0, 1) := by decide +kernel
theorem dL_law_1273 : decode cL_law 1273 = .ok (.iload 4, 2) := by decide +kernel
theorem dL_law_1275 : decode cL_law 1275 = .ok (.iconst 3, 1) := by decide +kernel
theorem dL_law_1276 : decode cL_law 1276 = .ok (.iadd, 1) := by decide +kernel
theorem dL_law_1277 : decode cL_law 1277 = .ok (.iaload, 1) := by decide +kernel
theorem dL_law_1278 : decode cL_law 1278 = .ok (.aload_n 0, 1) := by decide +kernel
theorem dL_law_1279 : decode cL_law 1279 = .ok (.iload 4, 2) := by decide +kernel
theorem dL_law_1281 : decode cL_law 1281 = .ok (.iconst 4, 1) := by decide +kernel
theorem dL_law_1282 : decode cL_law 1282 = .ok (.iadd, 1) := by decide +kernel
theorem dL_law_1283 : decode cL_law 1283 = .ok (.iaload, 1) := by decide +kernel
theorem dL_law_1284 : decode cL_law 1284 = .ok (.aload_n 0, 1) := by decide +kernel
theorem dL_law_1285 : decode cL_law 1285 = .ok (.iload 4, 2) := by decide +kernel
theorem dL_law_1287 : decode cL_law 1287 = .ok (.iconst 5, 1) := by decide +kernel
theorem dL_law_1288 : decode cL_law 1288 = .ok (.iadd, 1) := by decide +kernel
theorem dL_law_1289 : decode cL_law 1289 = .ok (.iaload, 1) := by decide +kernel
theorem dL_law_1290 : decode cL_law 1290 = .ok (.invokevirtual 156, 3) := by decide +kernel
theorem dL_law_1293 : decode cL_law 1293 = .ok (.if_icmp .eq 254, 3) := by decide +kernel
theorem dL_law_1296 : decode cL_law 1296 = .ok (.iconst 0, 1) := by decide +kernel
theorem dL_law_1297 : decode cL_law 1297 = .ok (.ireturn, 1) := by decide +kernel
theorem dL_law_1298 : decode cL_law 1298 = .ok (.aload_n 1, 1) := by decide +kernel
theorem dL_law_1299 : decode cL_law 1299 = .ok (.aload_n 0, 1) := by decide +kernel
theorem dL_law_1300 : decode cL_law 1300 = .ok (.iload 4, 2) := by decide +kernel
theorem dL_law_1302 : decode cL_law 1302 = .ok (.iconst 1, 1) := by decide +kernel
theorem dL_law_1303 : decode cL_law 1303 = .ok (.iadd, 1) := by decide +kernel
theorem dL_law_1304 : decode cL_law 1304 = .ok (.iaload, 1) := by decide +kernel
theorem dL_law_1305 : decode cL_law 1305 = .ok (.aload_n 0, 1) := by decide +kernel
theorem dL_law_1306 : decode cL_law 1306 = .ok (.iload 4, 2) := by decide +kernel
theorem dL_law_1308 : decode cL_law 1308 = .ok (.iconst 2, 1) := by decide +kernel
theorem dL_law_1309 : decode cL_law 1309 = .ok (.iadd, 1) := by decide +kernel
theorem dL_law_1310 : decode cL_law 1310 = .ok (.iaload, 1) := by decide +kernel
theorem dL_law_1311 : decode cL_law 1311 = .ok (.aload_n 0, 1) := by decide +kernel
theorem dL_law_1312 : decode cL_law 1312 = .ok (.iload 4, 2) := by decide +kernel
theorem dL_law_1314 : decode cL_law 1314 = .ok (.iconst 3, 1) := by decide +kernel
theorem dL_law_1315 : decode cL_law 1315 = .ok (.iadd, 1) := by decide +kernel
theorem dL_law_1316 : decode cL_law 1316 = .ok (.iaload, 1) := by decide +kernel
theorem dL_law_1317 : decode cL_law 1317 = .ok (.invokevirtual 157, 3) := by decide +kernel
theorem dL_law_1320 : decode cL_law 1320 = .ok (.aload_n 2, 1) := by decide +kernel
theorem dL_law_1321 : decode cL_law 1321 = .ok (.aload_n 0, 1) := by decide +kernel
theorem dL_law_1322 : decode cL_law 1322 = .ok (.iload 4, 2) := by decide +kernel
theorem dL_law_1324 : decode cL_law 1324 = .ok (.iconst 1, 1) := by decide +kernel
theorem dL_law_1325 : decode cL_law 1325 = .ok (.iadd, 1) := by decide +kernel
theorem dL_law_1326 : decode cL_law 1326 = .ok (.iaload, 1) := by decide +kernel
theorem dL_law_1327 : decode cL_law 1327 = .ok (.aload_n 0, 1) := by decide +kernel
theorem dL_law_1328 : decode cL_law 1328 = .ok (.iload 4, 2) := by decide +kernel
theorem dL_law_1330 : decode cL_law 1330 = .ok (.iconst 2, 1) := by decide +kernel
theorem dL_law_1331 : decode cL_law 1331 = .ok (.iadd, 1) := by decide +kernel
theorem dL_law_1332 : decode cL_law 1332 = .ok (.iaload, 1) := by decide +kernel
theorem dL_law_1333 : decode cL_law 1333 = .ok (.aload_n 0, 1) := by decide +kernel
theorem dL_law_1334 : decode cL_law 1334 = .ok (.iload 4, 2) := by decide +kernel
theorem dL_law_1336 : decode cL_law 1336 = .ok (.iconst 3, 1) := by decide +kernel
theorem dL_law_1337 : decode cL_law 1337 = .ok (.iadd, 1) := by decide +kernel
theorem dL_law_1338 : decode cL_law 1338 = .ok (.iaload, 1) := by decide +kernel
theorem dL_law_1339 : decode cL_law 1339 = .ok (.invokevirtual 160, 3) := by decide +kernel
theorem dL_law_1342 : decode cL_law 1342 = .ok (.if_icmp .eq 205, 3) := by decide +kernel
theorem dL_law_1345 : decode cL_law 1345 = .ok (.iconst 0, 1) := by decide +kernel
theorem dL_law_1346 : decode cL_law 1346 = .ok (.ireturn, 1) := by decide +kernel
theorem dL_law_1347 : decode cL_law 1347 = .ok (.aload_n 1, 1) := by decide +kernel
theorem dL_law_1348 : decode cL_law 1348 = .ok (.aload_n 0, 1) := by decide +kernel
theorem dL_law_1349 : decode cL_law 1349 = .ok (.iload 4, 2) := by decide +kernel
theorem dL_law_1351 : decode cL_law 1351 = .ok (.iconst 1, 1) := by decide +kernel
theorem dL_law_1352 : decode cL_law 1352 = .ok (.iadd, 1) := by decide +kernel
theorem dL_law_1353 : decode cL_law 1353 = .ok (.iaload, 1) := by decide +kernel
theorem dL_law_1354 : decode cL_law 1354 = .ok (.aload_n 0, 1) := by decide +kernel
theorem dL_law_1355 : decode cL_law 1355 = .ok (.iload 4, 2) := by decide +kernel
theorem dL_law_1357 : decode cL_law 1357 = .ok (.iconst 2, 1) := by decide +kernel
theorem dL_law_1358 : decode cL_law 1358 = .ok (.iadd, 1) := by decide +kernel
theorem dL_law_1359 : decode cL_law 1359 = .ok (.iaload, 1) := by decide +kernel
theorem dL_law_1360 : decode cL_law 1360 = .ok (.aload_n 0, 1) := by decide +kernel
theorem dL_law_1361 : decode cL_law 1361 = .ok (.iload 4, 2) := by decide +kernel
theorem dL_law_1363 : decode cL_law 1363 = .ok (.iconst 3, 1) := by decide +kernel
theorem dL_law_1364 : decode cL_law 1364 = .ok (.iadd, 1) := by decide +kernel
theorem dL_law_1365 : decode cL_law 1365 = .ok (.iaload, 1) := by decide +kernel
theorem dL_law_1366 : decode cL_law 1366 = .ok (.invokevirtual 161, 3) := by decide +kernel
theorem dL_law_1369 : decode cL_law 1369 = .ok (.aload_n 2, 1) := by decide +kernel
theorem dL_law_1370 : decode cL_law 1370 = .ok (.aload_n 0, 1) := by decide +kernel
theorem dL_law_1371 : decode cL_law 1371 = .ok (.iload 4, 2) := by decide +kernel
theorem dL_law_1373 : decode cL_law 1373 = .ok (.iconst 1, 1) := by decide +kernel
theorem dL_law_1374 : decode cL_law 1374 = .ok (.iadd, 1) := by decide +kernel
theorem dL_law_1375 : decode cL_law 1375 = .ok (.iaload, 1) := by decide +kernel
theorem dL_law_1376 : decode cL_law 1376 = .ok (.aload_n 0, 1) := by decide +kernel
theorem dL_law_1377 : decode cL_law 1377 = .ok (.iload 4, 2) := by decide +kernel
theorem dL_law_1379 : decode cL_law 1379 = .ok (.iconst 2, 1) := by decide +kernel
theorem dL_law_1380 : decode cL_law 1380 = .ok (.iadd, 1) := by decide +kernel
theorem dL_law_1381 : decode cL_law 1381 = .ok (.iaload, 1) := by decide +kernel
theorem dL_law_1382 : decode cL_law 1382 = .ok (.aload_n 0, 1) := by decide +kernel
theorem dL_law_1383 : decode cL_law 1383 = .ok (.iload 4, 2) := by decide +kernel
theorem dL_law_1385 : decode cL_law 1385 = .ok (.iconst 3, 1) := by decide +kernel
theorem dL_law_1386 : decode cL_law 1386 = .ok (.iadd, 1) := by decide +kernel
theorem dL_law_1387 : decode cL_law 1387 = .ok (.iaload, 1) := by decide +kernel
theorem dL_law_1388 : decode cL_law 1388 = .ok (.invokevirtual 164, 3) := by decide +kernel
theorem dL_law_1391 : decode cL_law 1391 = .ok (.if_icmp .eq 156, 3) := by decide +kernel
theorem dL_law_1394 : decode cL_law 1394 = .ok (.iconst 0, 1) := by decide +kernel
theorem dL_law_1395 : decode cL_law 1395 = .ok (.ireturn, 1) := by decide +kernel
theorem dL_law_1396 : decode cL_law 1396 = .ok (.aload_n 1, 1) := by decide +kernel
theorem dL_law_1397 : decode cL_law 1397 = .ok (.aload_n 0, 1) := by decide +kernel
theorem dL_law_1398 : decode cL_law 1398 = .ok (.iload 4, 2) := by decide +kernel
theorem dL_law_1400 : decode cL_law 1400 = .ok (.iconst 1, 1) := by decide +kernel
theorem dL_law_1401 : decode cL_law 1401 = .ok (.iadd, 1) := by decide +kernel
theorem dL_law_1402 : decode cL_law 1402 = .ok (.iaload, 1) := by decide +kernel
theorem dL_law_1403 : decode cL_law 1403 = .ok (.invokevirtual 165, 3) := by decide +kernel
theorem dL_law_1406 : decode cL_law 1406 = .ok (.aload_n 2, 1) := by decide +kernel
theorem dL_law_1407 : decode cL_law 1407 = .ok (.aload_n 0, 1) := by decide +kernel
theorem dL_law_1408 : decode cL_law 1408 = .ok (.iload 4, 2) := by decide +kernel
theorem dL_law_1410 : decode cL_law 1410 = .ok (.iconst 1, 1) := by decide +kernel
theorem dL_law_1411 : decode cL_law 1411 = .ok (.iadd, 1) := by decide +kernel
theorem dL_law_1412 : decode cL_law 1412 = .ok (.iaload, 1) := by decide +kernel
theorem dL_law_1413 : decode cL_law 1413 = .ok (.invokevirtual 168, 3) := by decide +kernel
theorem dL_law_1416 : decode cL_law 1416 = .ok (.if_icmp .eq 131, 3) := by decide +kernel
theorem dL_law_1419 : decode cL_law 1419 = .ok (.iconst 0, 1) := by decide +kernel
theorem dL_law_1420 : decode cL_law 1420 = .ok (.ireturn, 1) := by decide +kernel
theorem dL_law_1421 : decode cL_law 1421 = .ok (.aload_n 1, 1) := by decide +kernel
theorem dL_law_1422 : decode cL_law 1422 = .ok (.aload_n 0, 1) := by decide +kernel
theorem dL_law_1423 : decode cL_law 1423 = .ok (.iload 4, 2) := by decide +kernel
theorem dL_law_1425 : decode cL_law 1425 = .ok (.iconst 1, 1) := by decide +kernel
theorem dL_law_1426 : decode cL_law 1426 = .ok (.iadd, 1) := by decide +kernel
theorem dL_law_1427 : decode cL_law 1427 = .ok (.iaload, 1) := by decide +kernel
theorem dL_law_1428 : decode cL_law 1428 = .ok (.invokevirtual 169, 3) := by decide +kernel
theorem dL_law_1431 : decode cL_law 1431 = .ok (.aload_n 2, 1) := by decide +kernel
theorem dL_law_1432 : decode cL_law 1432 = .ok (.aload_n 0, 1) := by decide +kernel
theorem dL_law_1433 : decode cL_law 1433 = .ok (.iload 4, 2) := by decide +kernel
theorem dL_law_1435 : decode cL_law 1435 = .ok (.iconst 1, 1) := by decide +kernel
theorem dL_law_1436 : decode cL_law 1436 = .ok (.iadd, 1) := by decide +kernel
theorem dL_law_1437 : decode cL_law 1437 = .ok (.iaload, 1) := by decide +kernel
theorem dL_law_1438 : decode cL_law 1438 = .ok (.invokevirtual 172, 3) := by decide +kernel
theorem dL_law_1441 : decode cL_law 1441 = .ok (.if_icmp .eq 106, 3) := by decide +kernel
theorem dL_law_1444 : decode cL_law 1444 = .ok (.iconst 0, 1) := by decide +kernel
theorem dL_law_1445 : decode cL_law 1445 = .ok (.ireturn, 1) := by decide +kernel
theorem dL_law_1446 : decode cL_law 1446 = .ok (.aload_n 1, 1) := by decide +kernel
theorem dL_law_1447 : decode cL_law 1447 = .ok (.aload_n 0, 1) := by decide +kernel
theorem dL_law_1448 : decode cL_law 1448 = .ok (.iload 4, 2) := by decide +kernel
theorem dL_law_1450 : decode cL_law 1450 = .ok (.iconst 1, 1) := by decide +kernel
theorem dL_law_1451 : decode cL_law 1451 = .ok (.iadd, 1) := by decide +kernel
theorem dL_law_1452 : decode cL_law 1452 = .ok (.iaload, 1) := by decide +kernel
theorem dL_law_1453 : decode cL_law 1453 = .ok (.invokevirtual 173, 3) := by decide +kernel
theorem dL_law_1456 : decode cL_law 1456 = .ok (.aload_n 2, 1) := by decide +kernel
theorem dL_law_1457 : decode cL_law 1457 = .ok (.aload_n 0, 1) := by decide +kernel
theorem dL_law_1458 : decode cL_law 1458 = .ok (.iload 4, 2) := by decide +kernel
theorem dL_law_1460 : decode cL_law 1460 = .ok (.iconst 1, 1) := by decide +kernel
theorem dL_law_1461 : decode cL_law 1461 = .ok (.iadd, 1) := by decide +kernel
theorem dL_law_1462 : decode cL_law 1462 = .ok (.iaload, 1) := by decide +kernel
theorem dL_law_1463 : decode cL_law 1463 = .ok (.invokevirtual 176, 3) := by decide +kernel
theorem dL_law_1466 : decode cL_law 1466 = .ok (.if_icmp .eq 81, 3) := by decide +kernel
theorem dL_law_1469 : decode cL_law 1469 = .ok (.iconst 0, 1) := by decide +kernel
theorem dL_law_1470 : decode cL_law 1470 = .ok (.ireturn, 1) := by decide +kernel
theorem dL_law_1471 : decode cL_law 1471 = .ok (.aload_n 1, 1) := by decide +kernel
theorem dL_law_1472 : decode cL_law 1472 = .ok (.aload_n 0, 1) := by decide +kernel
theorem dL_law_1473 : decode cL_law 1473 = .ok (.iload 4, 2) := by decide +kernel
theorem dL_law_1475 : decode cL_law 1475 = .ok (.iconst 1, 1) := by decide +kernel
theorem dL_law_1476 : decode cL_law 1476 = .ok (.iadd, 1) := by decide +kernel
theorem dL_law_1477 : decode cL_law 1477 = .ok (.iaload, 1) := by decide +kernel
theorem dL_law_1478 : decode cL_law 1478 = .ok (.invokevirtual 177, 3) := by decide +kernel
theorem dL_law_1481 : decode cL_law 1481 = .ok (.aload_n 2, 1) := by decide +kernel
theorem dL_law_1482 : decode cL_law 1482 = .ok (.aload_n 0, 1) := by decide +kernel
theorem dL_law_1483 : decode cL_law 1483 = .ok (.iload 4, 2) := by decide +kernel
theorem dL_law_1485 : decode cL_law 1485 = .ok (.iconst 1, 1) := by decide +kernel
theorem dL_law_1486 : decode cL_law 1486 = .ok (.iadd, 1) := by decide +kernel
theorem dL_law_1487 : decode cL_law 1487 = .ok (.iaload, 1) := by decide +kernel
theorem dL_law_1488 : decode cL_law 1488 = .ok (.invokevirtual 180, 3) := by decide +kernel
theorem dL_law_1491 : decode cL_law 1491 = .ok (.if_icmp .eq 56, 3) := by decide +kernel
theorem dL_law_1494 : decode cL_law 1494 = .ok (.iconst 0, 1) := by decide +kernel
theorem dL_law_1495 : decode cL_law 1495 = .ok (.ireturn, 1) := by decide +kernel
theorem dL_law_1496 : decode cL_law 1496 = .ok (.aload_n 1, 1) := by decide +kernel
theorem dL_law_1497 : decode cL_law 1497 = .ok (.invokevirtual 181, 3) := by decide +kernel
theorem dL_law_1500 : decode cL_law 1500 = .ok (.aload_n 2, 1) := by decide +kernel
theorem dL_law_1501 : decode cL_law 1501 = .ok (.invokevirtual 184, 3) := by decide +kernel
theorem dL_law_1504 : decode cL_law 1504 = .ok (.if_icmp .eq 43, 3) := by decide +kernel
theorem dL_law_1507 : decode cL_law 1507 = .ok (.iconst 0, 1) := by decide +kernel
theorem dL_law_1508 : decode cL_law 1508 = .ok (.ireturn, 1) := by decide +kernel
theorem dL_law_1509 : decode cL_law 1509 = .ok (.aload_n 1, 1) := by decide +kernel
theorem dL_law_1510 : decode cL_law 1510 = .ok (.invokevirtual 185, 3) := by decide +kernel
theorem dL_law_1513 : decode cL_law 1513 = .ok (.aload_n 2, 1) := by decide +kernel
theorem dL_law_1514 : decode cL_law 1514 = .ok (.invokevirtual 188, 3) := by decide +kernel
theorem dL_law_1517 : decode cL_law 1517 = .ok (.if_icmp .eq 30, 3) := by decide +kernel
theorem dL_law_1520 : decode cL_law 1520 = .ok (.iconst 0, 1) := by decide +kernel
theorem dL_law_1521 : decode cL_law 1521 = .ok (.ireturn, 1) := by decide +kernel
theorem dL_law_1522 : decode cL_law 1522 = .ok (.aload_n 1, 1) := by decide +kernel
theorem dL_law_1523 : decode cL_law 1523 = .ok (.aload_n 0, 1) := by decide +kernel
theorem dL_law_1524 : decode cL_law 1524 = .ok (.iload 4, 2) := by decide +kernel
theorem dL_law_1526 : decode cL_law 1526 = .ok (.iconst 1, 1) := by decide +kernel
theorem dL_law_1527 : decode cL_law 1527 = .ok (.iadd, 1) := by decide +kernel
theorem dL_law_1528 : decode cL_law 1528 = .ok (.iaload, 1) := by decide +kernel
theorem dL_law_1529 : decode cL_law 1529 = .ok (.invokevirtual 189, 3) := by decide +kernel
theorem dL_law_1532 : decode cL_law 1532 = .ok (.aload_n 2, 1) := by decide +kernel
theorem dL_law_1533 : decode cL_law 1533 = .ok (.aload_n 0, 1) := by decide +kernel
theorem dL_law_1534 : decode cL_law 1534 = .ok (.iload 4, 2) := by decide +kernel
theorem dL_law_1536 : decode cL_law 1536 = .ok (.iconst 1, 1) := by decide +kernel
theorem dL_law_1537 : decode cL_law 1537 = .ok (.iadd, 1) := by decide +kernel
theorem dL_law_1538 : decode cL_law 1538 = .ok (.iaload, 1) := by decide +kernel
theorem dL_law_1539 : decode cL_law 1539 = .ok (.invokevirtual 192, 3) := by decide +kernel
theorem dL_law_1542 : decode cL_law 1542 = .ok (.if_icmp .eq 5, 3) := by decide +kernel
theorem dL_law_1545 : decode cL_law 1545 = .ok (.iconst 0, 1) := by decide +kernel
theorem dL_law_1546 : decode cL_law 1546 = .ok (.ireturn, 1) := by decide +kernel
theorem dL_law_1547 : decode cL_law 1547 = .ok (.iinc 4 6, 3) := by decide +kernel
theorem dL_law_1550 : decode cL_law 1550 = .ok (.goto (-1527), 3) := by decide +kernel
theorem dL_law_1553 : decode cL_law 1553 = .ok (.iconst 1, 1) := by decide +kernel
theorem dL_law_1554 : decode cL_law 1554 = .ok (.ireturn, 1) := by decide +kernel
