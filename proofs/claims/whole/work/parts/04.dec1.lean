theorem dX8_comeTo_118 : decode cX8_comeTo 118 = .ok (.getfield 15, 3) := by decide +kernel
theorem dX8_comeTo_121 : decode cX8_comeTo 121 = .ok (.iload_n 1, 1) := by decide +kernel
theorem dX8_comeTo_122 : decode cX8_comeTo 122 = .ok (.iconst 3, 1) := by decide +kernel
theorem dX8_comeTo_123 : decode cX8_comeTo 123 = .ok (.invokevirtual 23, 3) := by decide +kernel
theorem dX8_comeTo_126 : decode cX8_comeTo 126 = .ok (.iadd, 1) := by decide +kernel
theorem dX8_comeTo_127 : decode cX8_comeTo 127 = .ok (.iastore, 1) := by decide +kernel
theorem dX8_comeTo_128 : decode cX8_comeTo 128 = .ok (.aload_n 0, 1) := by decide +kernel
theorem dX8_comeTo_129 : decode cX8_comeTo 129 = .ok (.getfield 11, 3) := by decide +kernel
theorem dX8_comeTo_132 : decode cX8_comeTo 132 = .ok (.bipush 7, 2) := by decide +kernel
theorem dX8_comeTo_134 : decode cX8_comeTo 134 = .ok (.iload_n 1, 1) := by decide +kernel
theorem dX8_comeTo_135 : decode cX8_comeTo 135 = .ok (.iadd, 1) := by decide +kernel
theorem dX8_comeTo_136 : decode cX8_comeTo 136 = .ok (.dup2, 1) := by decide +kernel
theorem dX8_comeTo_137 : decode cX8_comeTo 137 = .ok (.iaload, 1) := by decide +kernel
theorem dX8_comeTo_138 : decode cX8_comeTo 138 = .ok (.iconst 1, 1) := by decide +kernel
theorem dX8_comeTo_139 : decode cX8_comeTo 139 = .ok (.iadd, 1) := by decide +kernel
theorem dX8_comeTo_140 : decode cX8_comeTo 140 = .ok (.iastore, 1) := by decide +kernel
theorem dX8_comeTo_141 : decode cX8_comeTo 141 = .ok (.aload_n 0, 1) := by decide +kernel
theorem dX8_comeTo_142 : decode cX8_comeTo 142 = .ok (.getfield 11, 3) := by decide +kernel
theorem dX8_comeTo_145 : decode cX8_comeTo 145 = .ok (.bipush 14, 2) := by decide +kernel
theorem dX8_comeTo_147 : decode cX8_comeTo 147 = .ok (.iload_n 1, 1) := by decide +kernel
theorem dX8_comeTo_148 : decode cX8_comeTo 148 = .ok (.iadd, 1) := by decide +kernel
theorem dX8_comeTo_149 : decode cX8_comeTo 149 = .ok (.dup2, 1) := by decide +kernel
theorem dX8_comeTo_150 : decode cX8_comeTo 150 = .ok (.iaload, 1) := by decide +kernel
theorem dX8_comeTo_151 : decode cX8_comeTo 151 = .ok (.iload_n 3, 1) := by decide +kernel
theorem dX8_comeTo_152 : decode cX8_comeTo 152 = .ok (.iadd, 1) := by decide +kernel
theorem dX8_comeTo_153 : decode cX8_comeTo 153 = .ok (.iastore, 1) := by decide +kernel
theorem dX8_comeTo_154 : decode cX8_comeTo 154 = .ok (.aload_n 0, 1) := by decide +kernel
theorem dX8_comeTo_155 : decode cX8_comeTo 155 = .ok (.getfield 11, 3) := by decide +kernel
theorem dX8_comeTo_158 : decode cX8_comeTo 158 = .ok (.iconst 5, 1) := by decide +kernel
theorem dX8_comeTo_159 : decode cX8_comeTo 159 = .ok (.dup2, 1) := by decide +kernel
theorem dX8_comeTo_160 : decode cX8_comeTo 160 = .ok (.iaload, 1) := by decide +kernel
theorem dX8_comeTo_161 : decode cX8_comeTo 161 = .ok (.iconst 1, 1) := by decide +kernel
theorem dX8_comeTo_162 : decode cX8_comeTo 162 = .ok (.iload_n 1, 1) := by decide +kernel
theorem dX8_comeTo_163 : decode cX8_comeTo 163 = .ok (.ishl, 1) := by decide +kernel
theorem dX8_comeTo_164 : decode cX8_comeTo 164 = .ok (.ior, 1) := by decide +kernel
theorem dX8_comeTo_165 : decode cX8_comeTo 165 = .ok (.iastore, 1) := by decide +kernel
theorem dX8_comeTo_166 : decode cX8_comeTo 166 = .ok (.iload_n 3, 1) := by decide +kernel
theorem dX8_comeTo_167 : decode cX8_comeTo 167 = .ok (.ireturn, 1) := by decide +kernel
theorem dX8_readOnLedge_0 : decode cX8_readOnLedge 0 = .ok (.aload_n 0, 1) := by decide +kernel
theorem dX8_readOnLedge_1 : decode cX8_readOnLedge 1 = .ok (.getfield 11, 3) := by decide +kernel
theorem dX8_readOnLedge_4 : decode cX8_readOnLedge 4 = .ok (.iconst 1, 1) := by decide +kernel
theorem dX8_readOnLedge_5 : decode cX8_readOnLedge 5 = .ok (.dup2, 1) := by decide +kernel
theorem dX8_readOnLedge_6 : decode cX8_readOnLedge 6 = .ok (.iaload, 1) := by decide +kernel
theorem dX8_readOnLedge_7 : decode cX8_readOnLedge 7 = .ok (.iconst 1, 1) := by decide +kernel
theorem dX8_readOnLedge_8 : decode cX8_readOnLedge 8 = .ok (.iadd, 1) := by decide +kernel
theorem dX8_readOnLedge_9 : decode cX8_readOnLedge 9 = .ok (.iastore, 1) := by decide +kernel
theorem dX8_readOnLedge_10 : decode cX8_readOnLedge 10 = .ok (.aload_n 0, 1) := by decide +kernel
theorem dX8_readOnLedge_11 : decode cX8_readOnLedge 11 = .ok (.getfield 11, 3) := by decide +kernel
theorem dX8_readOnLedge_14 : decode cX8_readOnLedge 14 = .ok (.iconst 2, 1) := by decide +kernel
theorem dX8_readOnLedge_15 : decode cX8_readOnLedge 15 = .ok (.iconst 0, 1) := by decide +kernel
theorem dX8_readOnLedge_16 : decode cX8_readOnLedge 16 = .ok (.aload_n 0, 1) := by decide +kernel
theorem dX8_readOnLedge_17 : decode cX8_readOnLedge 17 = .ok (.getfield 11, 3) := by decide +kernel
theorem dX8_readOnLedge_20 : decode cX8_readOnLedge 20 = .ok (.iconst 2, 1) := by decide +kernel
theorem dX8_readOnLedge_21 : decode cX8_readOnLedge 21 = .ok (.iaload, 1) := by decide +kernel
theorem dX8_readOnLedge_22 : decode cX8_readOnLedge 22 = .ok (.iconst 3, 1) := by decide +kernel
theorem dX8_readOnLedge_23 : decode cX8_readOnLedge 23 = .ok (.isub, 1) := by decide +kernel
theorem dX8_readOnLedge_24 : decode cX8_readOnLedge 24 = .ok (.invokestatic 112, 3) := by decide +kernel
theorem dX8_readOnLedge_27 : decode cX8_readOnLedge 27 = .ok (.iastore, 1) := by decide +kernel
theorem dX8_readOnLedge_28 : decode cX8_readOnLedge 28 = .ok (.aload_n 0, 1) := by decide +kernel
theorem dX8_readOnLedge_29 : decode cX8_readOnLedge 29 = .ok (.getfield 11, 3) := by decide +kernel
theorem dX8_readOnLedge_32 : decode cX8_readOnLedge 32 = .ok (.iconst 2, 1) := by decide +kernel
theorem dX8_readOnLedge_33 : decode cX8_readOnLedge 33 = .ok (.iaload, 1) := by decide +kernel
theorem dX8_readOnLedge_34 : decode cX8_readOnLedge 34 = .ok (.ireturn, 1) := by decide +kernel
theorem dX8_putBack_0 : decode cX8_putBack 0 = .ok (.aload_n 0, 1) := by decide +kernel
theorem dX8_putBack_1 : decode cX8_putBack 1 = .ok (.getfield 15, 3) := by decide +kernel
theorem dX8_putBack_4 : decode cX8_putBack 4 = .ok (.iload_n 1, 1) := by decide +kernel
theorem dX8_putBack_5 : decode cX8_putBack 5 = .ok (.invokevirtual 35, 3) := by decide +kernel
theorem dX8_putBack_8 : decode cX8_putBack 8 = .ok (.ifCond .ne 5, 3) := by decide +kernel
theorem dX8_putBack_11 : decode cX8_putBack 11 = .ok (.iconst (-1), 1) := by decide +kernel
theorem dX8_putBack_12 : decode cX8_putBack 12 = .ok (.ireturn, 1) := by decide +kernel
theorem dX8_putBack_13 : decode cX8_putBack 13 = .ok (.aload_n 0, 1) := by decide +kernel
theorem dX8_putBack_14 : decode cX8_putBack 14 = .ok (.getfield 11, 3) := by decide +kernel
theorem dX8_putBack_17 : decode cX8_putBack 17 = .ok (.iconst 5, 1) := by decide +kernel
theorem dX8_putBack_18 : decode cX8_putBack 18 = .ok (.dup2, 1) := by decide +kernel
theorem dX8_putBack_19 : decode cX8_putBack 19 = .ok (.iaload, 1) := by decide +kernel
theorem dX8_putBack_20 : decode cX8_putBack 20 = .ok (.iconst 1, 1) := by decide +kernel
theorem dX8_putBack_21 : decode cX8_putBack 21 = .ok (.iload_n 1, 1) := by decide +kernel
theorem dX8_putBack_22 : decode cX8_putBack 22 = .ok (.ishl, 1) := by decide +kernel
theorem dX8_putBack_23 : decode cX8_putBack 23 = .ok (.iconst (-1), 1) := by decide +kernel
theorem dX8_putBack_24 : decode cX8_putBack 24 = .ok (.ixor, 1) := by decide +kernel
theorem dX8_putBack_25 : decode cX8_putBack 25 = .ok (.iand, 1) := by decide +kernel
theorem dX8_putBack_26 : decode cX8_putBack 26 = .ok (.iastore, 1) := by decide +kernel
theorem dX8_putBack_27 : decode cX8_putBack 27 = .ok (.aload_n 0, 1) := by decide +kernel
theorem dX8_putBack_28 : decode cX8_putBack 28 = .ok (.getfield 11, 3) := by decide +kernel
theorem dX8_putBack_31 : decode cX8_putBack 31 = .ok (.bipush 14, 2) := by decide +kernel
theorem dX8_putBack_33 : decode cX8_putBack 33 = .ok (.iload_n 1, 1) := by decide +kernel
theorem dX8_putBack_34 : decode cX8_putBack 34 = .ok (.iadd, 1) := by decide +kernel
theorem dX8_putBack_35 : decode cX8_putBack 35 = .ok (.dup2, 1) := by decide +kernel
theorem dX8_putBack_36 : decode cX8_putBack 36 = .ok (.iaload, 1) := by decide +kernel
theorem dX8_putBack_37 : decode cX8_putBack 37 = .ok (.iconst 2, 1) := by decide +kernel
theorem dX8_putBack_38 : decode cX8_putBack 38 = .ok (.idiv, 1) := by decide +kernel
theorem dX8_putBack_39 : decode cX8_putBack 39 = .ok (.iastore, 1) := by decide +kernel
theorem dX8_putBack_40 : decode cX8_putBack 40 = .ok (.aload_n 0, 1) := by decide +kernel
theorem dX8_putBack_41 : decode cX8_putBack 41 = .ok (.getfield 11, 3) := by decide +kernel
theorem dX8_putBack_44 : decode cX8_putBack 44 = .ok (.bipush 14, 2) := by decide +kernel
theorem dX8_putBack_46 : decode cX8_putBack 46 = .ok (.iload_n 1, 1) := by decide +kernel
theorem dX8_putBack_47 : decode cX8_putBack 47 = .ok (.iadd, 1) := by decide +kernel
theorem dX8_putBack_48 : decode cX8_putBack 48 = .ok (.iaload, 1) := by decide +kernel
theorem dX8_putBack_49 : decode cX8_putBack 49 = .ok (.ireturn, 1) := by decide +kernel
theorem dX8_endDay_0 : decode cX8_endDay 0 = .ok (.aload_n 0, 1) := by decide +kernel
theorem dX8_endDay_1 : decode cX8_endDay 1 = .ok (.getfield 11, 3) := by decide +kernel
theorem dX8_endDay_4 : decode cX8_endDay 4 = .ok (.iconst 0, 1) := by decide +kernel
theorem dX8_endDay_5 : decode cX8_endDay 5 = .ok (.iconst (-1), 1) := by decide +kernel
theorem dX8_endDay_6 : decode cX8_endDay 6 = .ok (.iastore, 1) := by decide +kernel
theorem dX8_endDay_7 : decode cX8_endDay 7 = .ok (.aload_n 0, 1) := by decide +kernel
theorem dX8_endDay_8 : decode cX8_endDay 8 = .ok (.getfield 11, 3) := by decide +kernel
theorem dX8_endDay_11 : decode cX8_endDay 11 = .ok (.iconst 1, 1) := by decide +kernel
theorem dX8_endDay_12 : decode cX8_endDay 12 = .ok (.iconst 0, 1) := by decide +kernel
theorem dX8_endDay_13 : decode cX8_endDay 13 = .ok (.iastore, 1) := by decide +kernel
theorem dX8_endDay_14 : decode cX8_endDay 14 = .ok (.aload_n 0, 1) := by decide +kernel
theorem dX8_endDay_15 : decode cX8_endDay 15 = .ok (.getfield 11, 3) := by decide +kernel
theorem dX8_endDay_18 : decode cX8_endDay 18 = .ok (.iconst 2, 1) := by decide +kernel
theorem dX8_endDay_19 : decode cX8_endDay 19 = .ok (.iconst 0, 1) := by decide +kernel
theorem dX8_endDay_20 : decode cX8_endDay 20 = .ok (.iastore, 1) := by decide +kernel
theorem dX8_endDay_21 : decode cX8_endDay 21 = .ok (.aload_n 0, 1) := by decide +kernel
theorem dX8_endDay_22 : decode cX8_endDay 22 = .ok (.getfield 11, 3) := by decide +kernel
theorem dX8_endDay_25 : decode cX8_endDay 25 = .ok (.iconst 3, 1) := by decide +kernel
theorem dX8_endDay_26 : decode cX8_endDay 26 = .ok (.iconst 0, 1) := by decide +kernel
theorem dX8_endDay_27 : decode cX8_endDay 27 = .ok (.iastore, 1) := by decide +kernel
theorem dX8_endDay_28 : decode cX8_endDay 28 = .ok (.aload_n 0, 1) := by decide +kernel
theorem dX8_endDay_29 : decode cX8_endDay 29 = .ok (.getfield 11, 3) := by decide +kernel
theorem dX8_endDay_32 : decode cX8_endDay 32 = .ok (.bipush 6, 2) := by decide +kernel
theorem dX8_endDay_34 : decode cX8_endDay 34 = .ok (.dup2, 1) := by decide +kernel
theorem dX8_endDay_35 : decode cX8_endDay 35 = .ok (.iaload, 1) := by decide +kernel
theorem dX8_endDay_36 : decode cX8_endDay 36 = .ok (.iconst 1, 1) := by decide +kernel
theorem dX8_endDay_37 : decode cX8_endDay 37 = .ok (.iadd, 1) := by decide +kernel
theorem dX8_endDay_38 : decode cX8_endDay 38 = .ok (.iastore, 1) := by decide +kernel
theorem dX8_endDay_39 : decode cX8_endDay 39 = .ok (.iconst 0, 1) := by decide +kernel
theorem dX8_endDay_40 : decode cX8_endDay 40 = .ok (.istore_n 1, 1) := by decide +kernel
theorem dX8_endDay_41 : decode cX8_endDay 41 = .ok (.iload_n 1, 1) := by decide +kernel
theorem dX8_endDay_42 : decode cX8_endDay 42 = .ok (.bipush 7, 2) := by decide +kernel
theorem dX8_endDay_44 : decode cX8_endDay 44 = .ok (.if_icmp .ge 53, 3) := by decide +kernel
theorem dX8_endDay_47 : decode cX8_endDay 47 = .ok (.aload_n 0, 1) := by decide +kernel
theorem dX8_endDay_48 : decode cX8_endDay 48 = .ok (.getfield 11, 3) := by decide +kernel
theorem dX8_endDay_51 : decode cX8_endDay 51 = .ok (.bipush 7, 2) := by decide +kernel
theorem dX8_endDay_53 : decode cX8_endDay 53 = .ok (.iload_n 1, 1) := by decide +kernel
theorem dX8_endDay_54 : decode cX8_endDay 54 = .ok (.iadd, 1) := by decide +kernel
theorem dX8_endDay_55 : decode cX8_endDay 55 = .ok (.iconst 0, 1) := by decide +kernel
theorem dX8_endDay_56 : decode cX8_endDay 56 = .ok (.iastore, 1) := by decide +kernel
theorem dX8_endDay_57 : decode cX8_endDay 57 = .ok (.aload_n 0, 1) := by decide +kernel
theorem dX8_endDay_58 : decode cX8_endDay 58 = .ok (.getfield 11, 3) := by decide +kernel
theorem dX8_endDay_61 : decode cX8_endDay 61 = .ok (.bipush 14, 2) := by decide +kernel
theorem dX8_endDay_63 : decode cX8_endDay 63 = .ok (.iload_n 1, 1) := by decide +kernel
theorem dX8_endDay_64 : decode cX8_endDay 64 = .ok (.iadd, 1) := by decide +kernel
theorem dX8_endDay_65 : decode cX8_endDay 65 = .ok (.iaload, 1) := by decide +kernel
theorem dX8_endDay_66 : decode cX8_endDay 66 = .ok (.aload_n 0, 1) := by decide +kernel
theorem dX8_endDay_67 : decode cX8_endDay 67 = .ok (.getfield 15, 3) := by decide +kernel
theorem dX8_endDay_70 : decode cX8_endDay 70 = .ok (.getfield 60, 3) := by decide +kernel
theorem dX8_endDay_73 : decode cX8_endDay 73 = .ok (.iconst 2, 1) := by decide +kernel
theorem dX8_endDay_74 : decode cX8_endDay 74 = .ok (.iaload, 1) := by decide +kernel
theorem dX8_endDay_75 : decode cX8_endDay 75 = .ok (.isub, 1) := by decide +kernel
theorem dX8_endDay_76 : decode cX8_endDay 76 = .ok (.istore_n 2, 1) := by decide +kernel
theorem dX8_endDay_77 : decode cX8_endDay 77 = .ok (.aload_n 0, 1) := by decide +kernel
theorem dX8_endDay_78 : decode cX8_endDay 78 = .ok (.getfield 11, 3) := by decide +kernel
theorem dX8_endDay_81 : decode cX8_endDay 81 = .ok (.bipush 14, 2) := by decide +kernel
theorem dX8_endDay_83 : decode cX8_endDay 83 = .ok (.iload_n 1, 1) := by decide +kernel
theorem dX8_endDay_84 : decode cX8_endDay 84 = .ok (.iadd, 1) := by decide +kernel
theorem dX8_endDay_85 : decode cX8_endDay 85 = .ok (.iconst 0, 1) := by decide +kernel
theorem dX8_endDay_86 : decode cX8_endDay 86 = .ok (.iload_n 2, 1) := by decide +kernel
theorem dX8_endDay_87 : decode cX8_endDay 87 = .ok (.invokestatic 112, 3) := by decide +kernel
theorem dX8_endDay_90 : decode cX8_endDay 90 = .ok (.iastore, 1) := by decide +kernel
theorem dX8_endDay_91 : decode cX8_endDay 91 = .ok (.iinc 1 1, 3) := by decide +kernel
theorem dX8_endDay_94 : decode cX8_endDay 94 = .ok (.goto (-53), 3) := by decide +kernel
theorem dX8_endDay_97 : decode cX8_endDay 97 = .ok (.aload_n 0, 1) := by decide +kernel
theorem dX8_endDay_98 : decode cX8_endDay 98 = .ok (.getfield 11, 3) := by decide +kernel
theorem dX8_endDay_101 : decode cX8_endDay 101 = .ok (.bipush 6, 2) := by decide +kernel
theorem dX8_endDay_103 : decode cX8_endDay 103 = .ok (.iaload, 1) := by decide +kernel
theorem dX8_endDay_104 : decode cX8_endDay 104 = .ok (.ireturn, 1) := by decide +kernel
theorem dX9_init_0 : decode cX9_init 0 = .ok (.aload_n 0, 1) := by decide +kernel
theorem dX9_init_1 : decode cX9_init 1 = .ok (.invokespecial 3, 3) := by decide +kernel
theorem dX9_init_4 : decode cX9_init 4 = .ok (.aload_n 0, 1) := by decide +kernel
theorem dX9_init_5 : decode cX9_init 5 = .ok (.sipush 240, 3) := by decide +kernel
theorem dX9_init_8 : decode cX9_init 8 = .ok (.newarray .int, 2) := by decide +kernel
theorem dX9_init_10 : decode cX9_init 10 = .ok (.putfield 9, 3) := by decide +kernel
theorem dX9_init_13 : decode cX9_init 13 = .ok (.return_, 1) := by decide +kernel
theorem dX9_bytesIn_0 : decode cX9_bytesIn 0 = .ok (.iconst 0, 1) := by decide +kernel
theorem dX9_bytesIn_1 : decode cX9_bytesIn 1 = .ok (.istore_n 1, 1) := by decide +kernel
theorem dX9_bytesIn_2 : decode cX9_bytesIn 2 = .ok (.bipush 24, 2) := by decide +kernel
theorem dX9_bytesIn_4 : decode cX9_bytesIn 4 = .ok (.istore_n 2, 1) := by decide +kernel
theorem dX9_bytesIn_5 : decode cX9_bytesIn 5 = .ok (.iload_n 2, 1) := by decide +kernel
theorem dX9_bytesIn_6 : decode cX9_bytesIn 6 = .ok (.ifCond .lt 22, 3) := by decide +kernel
theorem dX9_bytesIn_9 : decode cX9_bytesIn 9 = .ok (.iload_n 0, 1) := by decide +kernel
theorem dX9_bytesIn_10 : decode cX9_bytesIn 10 = .ok (.iload_n 2, 1) := by decide +kernel
theorem dX9_bytesIn_11 : decode cX9_bytesIn 11 = .ok (.iushr, 1) := by decide +kernel
theorem dX9_bytesIn_12 : decode cX9_bytesIn 12 = .ok (.sipush 255, 3) := by decide +kernel
theorem dX9_bytesIn_15 : decode cX9_bytesIn 15 = .ok (.iand, 1) := by decide +kernel
theorem dX9_bytesIn_16 : decode cX9_bytesIn 16 = .ok (.ifCond .eq 6, 3) := by decide +kernel
theorem dX9_bytesIn_19 : decode cX9_bytesIn 19 = .ok (.iinc 1 1, 3) := by decide +kernel
theorem dX9_bytesIn_22 : decode cX9_bytesIn 22 = .ok (.iinc 2 (-8), 3) := by decide +kernel
theorem dX9_bytesIn_25 : decode cX9_bytesIn 25 = .ok (.goto (-20), 3) := by decide +kernel
theorem dX9_bytesIn_28 : decode cX9_bytesIn 28 = .ok (.iload_n 1, 1) := by decide +kernel
theorem dX9_bytesIn_29 : decode cX9_bytesIn 29 = .ok (.ireturn, 1) := by decide +kernel
theorem dX9_addBytesOf_0 : decode cX9_addBytesOf 0 = .ok (.bipush 24, 2) := by decide +kernel
theorem dX9_addBytesOf_2 : decode cX9_addBytesOf 2 = .ok (.istore_n 2, 1) := by decide +kernel
theorem dX9_addBytesOf_3 : decode cX9_addBytesOf 3 = .ok (.iload_n 2, 1) := by decide +kernel
theorem dX9_addBytesOf_4 : decode cX9_addBytesOf 4 = .ok (.ifCond .lt 51, 3) := by decide +kernel
theorem dX9_addBytesOf_7 : decode cX9_addBytesOf 7 = .ok (.iload_n 1, 1) := by decide +kernel
theorem dX9_addBytesOf_8 : decode cX9_addBytesOf 8 = .ok (.iload_n 2, 1) := by decide +kernel
theorem dX9_addBytesOf_9 : decode cX9_addBytesOf 9 = .ok (.iushr, 1) := by decide +kernel
theorem dX9_addBytesOf_10 : decode cX9_addBytesOf 10 = .ok (.sipush 255, 3) := by decide +kernel
theorem dX9_addBytesOf_13 : decode cX9_addBytesOf 13 = .ok (.iand, 1) := by decide +kernel
theorem dX9_addBytesOf_14 : decode cX9_addBytesOf 14 = .ok (.istore_n 3, 1) := by decide +kernel
theorem dX9_addBytesOf_15 : decode cX9_addBytesOf 15 = .ok (.iload_n 3, 1) := by decide +kernel
theorem dX9_addBytesOf_16 : decode cX9_addBytesOf 16 = .ok (.ifCond .eq 33, 3) := by decide +kernel
theorem dX9_addBytesOf_19 : decode cX9_addBytesOf 19 = .ok (.aload_n 0, 1) := by decide +kernel
theorem dX9_addBytesOf_20 : decode cX9_addBytesOf 20 = .ok (.getfield 15, 3) := by decide +kernel
theorem dX9_addBytesOf_23 : decode cX9_addBytesOf 23 = .ok (.sipush 240, 3) := by decide +kernel
theorem dX9_addBytesOf_26 : decode cX9_addBytesOf 26 = .ok (.if_icmp .ge 23, 3) := by decide +kernel
theorem dX9_addBytesOf_29 : decode cX9_addBytesOf 29 = .ok (.aload_n 0, 1) := by decide +kernel
theorem dX9_addBytesOf_30 : decode cX9_addBytesOf 30 = .ok (.getfield 9, 3) := by decide +kernel
theorem dX9_addBytesOf_33 : decode cX9_addBytesOf 33 = .ok (.aload_n 0, 1) := by decide +kernel
theorem dX9_addBytesOf_34 : decode cX9_addBytesOf 34 = .ok (.getfield 15, 3) := by decide +kernel
theorem dX9_addBytesOf_37 : decode cX9_addBytesOf 37 = .ok (.iload_n 3, 1) := by decide +kernel
theorem dX9_addBytesOf_38 : decode cX9_addBytesOf 38 = .ok (.iastore, 1) := by decide +kernel
theorem dX9_addBytesOf_39 : decode cX9_addBytesOf 39 = .ok (.aload_n 0, 1) := by decide +kernel
theorem dX9_addBytesOf_40 : decode cX9_addBytesOf 40 = .ok (.dup, 1) := by decide +kernel
theorem dX9_addBytesOf_41 : decode cX9_addBytesOf 41 = .ok (.getfield 15, 3) := by decide +kernel
theorem dX9_addBytesOf_44 : decode cX9_addBytesOf 44 = .ok (.iconst 1, 1) := by decide +kernel
theorem dX9_addBytesOf_45 : decode cX9_addBytesOf 45 = .ok (.iadd, 1) := by decide +kernel
theorem dX9_addBytesOf_46 : decode cX9_addBytesOf 46 = .ok (.putfield 15, 3) := by decide +kernel
theorem dX9_addBytesOf_49 : decode cX9_addBytesOf 49 = .ok (.iinc 2 (-8), 3) := by decide +kernel
theorem dX9_addBytesOf_52 : decode cX9_addBytesOf 52 = .ok (.goto (-49), 3) := by decide +kernel
theorem dX9_addBytesOf_55 : decode cX9_addBytesOf 55 = .ok (.return_, 1) := by decide +kernel
theorem dX9_sign_0 : decode cX9_sign 0 = .ok (.aload_n 0, 1) := by decide +kernel
theorem dX9_sign_1 : decode cX9_sign 1 = .ok (.getfield 19, 3) := by decide +kernel
theorem dX9_sign_4 : decode cX9_sign 4 = .ok (.aload_n 0, 1) := by decide +kernel
theorem dX9_sign_5 : decode cX9_sign 5 = .ok (.getfield 15, 3) := by decide +kernel
theorem dX9_sign_8 : decode cX9_sign 8 = .ok (.if_icmp .ge 30, 3) := by decide +kernel
theorem dX9_sign_11 : decode cX9_sign 11 = .ok (.aload_n 0, 1) := by decide +kernel
theorem dX9_sign_12 : decode cX9_sign 12 = .ok (.getfield 9, 3) := by decide +kernel
theorem dX9_sign_15 : decode cX9_sign 15 = .ok (.aload_n 0, 1) := by decide +kernel
theorem dX9_sign_16 : decode cX9_sign 16 = .ok (.getfield 19, 3) := by decide +kernel
theorem dX9_sign_19 : decode cX9_sign 19 = .ok (.iaload, 1) := by decide +kernel
theorem dX9_sign_20 : decode cX9_sign 20 = .ok (.bipush 32, 2) := by decide +kernel
theorem dX9_sign_22 : decode cX9_sign 22 = .ok (.if_icmp .ne 16, 3) := by decide +kernel
theorem dX9_sign_25 : decode cX9_sign 25 = .ok (.aload_n 0, 1) := by decide +kernel
theorem dX9_sign_26 : decode cX9_sign 26 = .ok (.dup, 1) := by decide +kernel
theorem dX9_sign_27 : decode cX9_sign 27 = .ok (.getfield 19, 3) := by decide +kernel
theorem dX9_sign_30 : decode cX9_sign 30 = .ok (.iconst 1, 1) := by decide +kernel
theorem dX9_sign_31 : decode cX9_sign 31 = .ok (.iadd, 1) := by decide +kernel
theorem dX9_sign_32 : decode cX9_sign 32 = .ok (.putfield 19, 3) := by decide +kernel
theorem dX9_sign_35 : decode cX9_sign 35 = .ok (.goto (-35), 3) := by decide +kernel
theorem dX9_sign_38 : decode cX9_sign 38 = .ok (.aload_n 0, 1) := by decide +kernel
theorem dX9_sign_39 : decode cX9_sign 39 = .ok (.getfield 19, 3) := by decide +kernel
theorem dX9_sign_42 : decode cX9_sign 42 = .ok (.aload_n 0, 1) := by decide +kernel
theorem dX9_sign_43 : decode cX9_sign 43 = .ok (.getfield 15, 3) := by decide +kernel
theorem dX9_sign_46 : decode cX9_sign 46 = .ok (.if_icmp .ge 15, 3) := by decide +kernel
theorem dX9_sign_49 : decode cX9_sign 49 = .ok (.aload_n 0, 1) := by decide +kernel
theorem dX9_sign_50 : decode cX9_sign 50 = .ok (.getfield 9, 3) := by decide +kernel
theorem dX9_sign_53 : decode cX9_sign 53 = .ok (.aload_n 0, 1) := by decide +kernel
theorem dX9_sign_54 : decode cX9_sign 54 = .ok (.getfield 19, 3) := by decide +kernel
theorem dX9_sign_57 : decode cX9_sign 57 = .ok (.iaload, 1) := by decide +kernel
theorem dX9_sign_58 : decode cX9_sign 58 = .ok (.goto 4, 3) := by decide +kernel
theorem dX9_sign_61 : decode cX9_sign 61 = .ok (.iconst (-1), 1) := by decide +kernel
theorem dX9_sign_62 : decode cX9_sign 62 = .ok (.ireturn, 1) := by decide +kernel
theorem dX9_take_0 : decode cX9_take 0 = .ok (.aload_n 0, 1) := by decide +kernel
theorem dX9_take_1 : decode cX9_take 1 = .ok (.invokevirtual 22, 3) := by decide +kernel
theorem dX9_take_4 : decode cX9_take 4 = .ok (.iload_n 1, 1) := by decide +kernel
theorem dX9_take_5 : decode cX9_take 5 = .ok (.if_icmp .eq 5, 3) := by decide +kernel
theorem dX9_take_8 : decode cX9_take 8 = .ok (.iconst 0, 1) := by decide +kernel
theorem dX9_take_9 : decode cX9_take 9 = .ok (.ireturn, 1) := by decide +kernel
theorem dX9_take_10 : decode cX9_take 10 = .ok (.aload_n 0, 1) := by decide +kernel
theorem dX9_take_11 : decode cX9_take 11 = .ok (.dup, 1) := by decide +kernel
theorem dX9_take_12 : decode cX9_take 12 = .ok (.getfield 19, 3) := by decide +kernel
theorem dX9_take_15 : decode cX9_take 15 = .ok (.iconst 1, 1) := by decide +kernel
theorem dX9_take_16 : decode cX9_take 16 = .ok (.iadd, 1) := by decide +kernel
theorem dX9_take_17 : decode cX9_take 17 = .ok (.putfield 19, 3) := by decide +kernel
theorem dX9_take_20 : decode cX9_take 20 = .ok (.iconst 1, 1) := by decide +kernel
theorem dX9_take_21 : decode cX9_take 21 = .ok (.ireturn, 1) := by decide +kernel
theorem dX9_isDigit_0 : decode cX9_isDigit 0 = .ok (.iload_n 0, 1) := by decide +kernel
theorem dX9_isDigit_1 : decode cX9_isDigit 1 = .ok (.bipush 48, 2) := by decide +kernel
theorem dX9_isDigit_3 : decode cX9_isDigit 3 = .ok (.if_icmp .lt 13, 3) := by decide +kernel
theorem dX9_isDigit_6 : decode cX9_isDigit 6 = .ok (.iload_n 0, 1) := by decide +kernel
theorem dX9_isDigit_7 : decode cX9_isDigit 7 = .ok (.bipush 57, 2) := by decide +kernel
theorem dX9_isDigit_9 : decode cX9_isDigit 9 = .ok (.if_icmp .gt 7, 3) := by decide +kernel
theorem dX9_isDigit_12 : decode cX9_isDigit 12 = .ok (.iconst 1, 1) := by decide +kernel
theorem dX9_isDigit_13 : decode cX9_isDigit 13 = .ok (.goto 4, 3) := by decide +kernel
theorem dX9_isDigit_16 : decode cX9_isDigit 16 = .ok (.iconst 0, 1) := by decide +kernel
theorem dX9_isDigit_17 : decode cX9_isDigit 17 = .ok (.ireturn, 1) := by decide +kernel
theorem dX9_readNumber_0 : decode cX9_readNumber 0 = .ok (.aload_n 0, 1) := by decide +kernel
theorem dX9_readNumber_1 : decode cX9_readNumber 1 = .ok (.invokevirtual 22, 3) := by decide +kernel
theorem dX9_readNumber_4 : decode cX9_readNumber 4 = .ok (.pop, 1) := by decide +kernel
theorem dX9_readNumber_5 : decode cX9_readNumber 5 = .ok (.iconst 0, 1) := by decide +kernel
theorem dX9_readNumber_6 : decode cX9_readNumber 6 = .ok (.istore 4, 2) := by decide +kernel
theorem dX9_readNumber_8 : decode cX9_readNumber 8 = .ok (.aload_n 0, 1) := by decide +kernel
theorem dX9_readNumber_9 : decode cX9_readNumber 9 = .ok (.iconst 0, 1) := by decide +kernel
theorem dX9_readNumber_10 : decode cX9_readNumber 10 = .ok (.putfield 26, 3) := by decide +kernel
theorem dX9_readNumber_13 : decode cX9_readNumber 13 = .ok (.aload_n 0, 1) := by decide +kernel
theorem dX9_readNumber_14 : decode cX9_readNumber 14 = .ok (.getfield 19, 3) := by decide +kernel
theorem dX9_readNumber_17 : decode cX9_readNumber 17 = .ok (.aload_n 0, 1) := by decide +kernel
theorem dX9_readNumber_18 : decode cX9_readNumber 18 = .ok (.getfield 15, 3) := by decide +kernel
theorem dX9_readNumber_21 : decode cX9_readNumber 21 = .ok (.if_icmp .ge 66, 3) := by decide +kernel
theorem dX9_readNumber_24 : decode cX9_readNumber 24 = .ok (.aload_n 0, 1) := by decide +kernel
theorem dX9_readNumber_25 : decode cX9_readNumber 25 = .ok (.getfield 9, 3) := by decide +kernel
theorem dX9_readNumber_28 : decode cX9_readNumber 28 = .ok (.aload_n 0, 1) := by decide +kernel
theorem dX9_readNumber_29 : decode cX9_readNumber 29 = .ok (.getfield 19, 3) := by decide +kernel
theorem dX9_readNumber_32 : decode cX9_readNumber 32 = .ok (.iaload, 1) := by decide +kernel
theorem dX9_readNumber_33 : decode cX9_readNumber 33 = .ok (.invokestatic 29, 3) := by decide +kernel
theorem dX9_readNumber_36 : decode cX9_readNumber 36 = .ok (.ifCond .eq 51, 3) := by decide +kernel
theorem dX9_readNumber_39 : decode cX9_readNumber 39 = .ok (.iload 4, 2) := by decide +kernel
theorem dX9_readNumber_41 : decode cX9_readNumber 41 = .ok (.iload_n 1, 1) := by decide +kernel
theorem dX9_readNumber_42 : decode cX9_readNumber 42 = .ok (.if_icmp .ne 5, 3) := by decide +kernel
theorem dX9_readNumber_45 : decode cX9_readNumber 45 = .ok (.iconst 0, 1) := by decide +kernel
theorem dX9_readNumber_46 : decode cX9_readNumber 46 = .ok (.ireturn, 1) := by decide +kernel
theorem dX9_readNumber_47 : decode cX9_readNumber 47 = .ok (.aload_n 0, 1) := by decide +kernel
theorem dX9_readNumber_48 : decode cX9_readNumber 48 = .ok (.aload_n 0, 1) := by decide +kernel
theorem dX9_readNumber_49 : decode cX9_readNumber 49 = .ok (.getfield 26, 3) := by decide +kernel
theorem dX9_readNumber_52 : decode cX9_readNumber 52 = .ok (.bipush 10, 2) := by decide +kernel
theorem dX9_readNumber_54 : decode cX9_readNumber 54 = .ok (.imul, 1) := by decide +kernel
theorem dX9_readNumber_55 : decode cX9_readNumber 55 = .ok (.aload_n 0, 1) := by decide +kernel
theorem dX9_readNumber_56 : decode cX9_readNumber 56 = .ok (.getfield 9, 3) := by decide +kernel
theorem dX9_readNumber_59 : decode cX9_readNumber 59 = .ok (.aload_n 0, 1) := by decide +kernel
theorem dX9_readNumber_60 : decode cX9_readNumber 60 = .ok (.getfield 19, 3) := by decide +kernel
theorem dX9_readNumber_63 : decode cX9_readNumber 63 = .ok (.iaload, 1) := by decide +kernel
theorem dX9_readNumber_64 : decode cX9_readNumber 64 = .ok (.iadd, 1) := by decide +kernel
theorem dX9_readNumber_65 : decode cX9_readNumber 65 = .ok (.bipush 48, 2) := by decide +kernel
theorem dX9_readNumber_67 : decode cX9_readNumber 67 = .ok (.isub, 1) := by decide +kernel
theorem dX9_readNumber_68 : decode cX9_readNumber 68 = .ok (.putfield 26, 3) := by decide +kernel
theorem dX9_readNumber_71 : decode cX9_readNumber 71 = .ok (.iinc 4 1, 3) := by decide +kernel
theorem dX9_readNumber_74 : decode cX9_readNumber 74 = .ok (.aload_n 0, 1) := by decide +kernel
theorem dX9_readNumber_75 : decode cX9_readNumber 75 = .ok (.dup, 1) := by decide +kernel
theorem dX9_readNumber_76 : decode cX9_readNumber 76 = .ok (.getfield 19, 3) := by decide +kernel
theorem dX9_readNumber_79 : decode cX9_readNumber 79 = .ok (.iconst 1, 1) := by decide +kernel
theorem dX9_readNumber_80 : decode cX9_readNumber 80 = .ok (.iadd, 1) := by decide +kernel
theorem dX9_readNumber_81 : decode cX9_readNumber 81 = .ok (.putfield 19, 3) := by decide +kernel
theorem dX9_readNumber_84 : decode cX9_readNumber 84 = .ok (.goto (-71), 3) := by decide +kernel
theorem dX9_readNumber_87 : decode cX9_readNumber 87 = .ok (.iload 4, 2) := by decide +kernel
theorem dX9_readNumber_89 : decode cX9_readNumber 89 = .ok (.ifCond .ne 5, 3) := by decide +kernel
theorem dX9_readNumber_92 : decode cX9_readNumber 92 = .ok (.iconst 0, 1) := by decide +kernel
theorem dX9_readNumber_93 : decode cX9_readNumber 93 = .ok (.ireturn, 1) := by decide +kernel
theorem dX9_readNumber_94 : decode cX9_readNumber 94 = .ok (.aload_n 0, 1) := by decide +kernel
theorem dX9_readNumber_95 : decode cX9_readNumber 95 = .ok (.getfield 26, 3) := by decide +kernel
theorem dX9_readNumber_98 : decode cX9_readNumber 98 = .ok (.iload_n 2, 1) := by decide +kernel
theorem dX9_readNumber_99 : decode cX9_readNumber 99 = .ok (.if_icmp .lt 11, 3) := by decide +kernel
theorem dX9_readNumber_102 : decode cX9_readNumber 102 = .ok (.aload_n 0, 1) := by decide +kernel
theorem dX9_readNumber_103 : decode cX9_readNumber 103 = .ok (.getfield 26, 3) := by decide +kernel
theorem dX9_readNumber_106 : decode cX9_readNumber 106 = .ok (.iload_n 3, 1) := by decide +kernel
theorem dX9_readNumber_107 : decode cX9_readNumber 107 = .ok (.if_icmp .le 15, 3) := by decide +kernel
theorem dX9_readNumber_110 : decode cX9_readNumber 110 = .ok (.aload_n 0, 1) := by decide +kernel
theorem dX9_readNumber_111 : decode cX9_readNumber 111 = .ok (.dup, 1) := by decide +kernel
theorem dX9_readNumber_112 : decode cX9_readNumber 112 = .ok (.getfield 19, 3) := by decide +kernel
theorem dX9_readNumber_115 : decode cX9_readNumber 115 = .ok (.iconst 1, 1) := by decide +kernel
theorem dX9_readNumber_116 : decode cX9_readNumber 116 = .ok (.isub, 1) := by decide +kernel
theorem dX9_readNumber_117 : decode cX9_readNumber 117 = .ok (.putfield 19, 3) := by decide +kernel
theorem dX9_readNumber_120 : decode cX9_readNumber 120 = .ok (.iconst 0, 1) := by decide +kernel
theorem dX9_readNumber_121 : decode cX9_readNumber 121 = .ok (.ireturn, 1) := by decide +kernel
theorem dX9_readNumber_122 : decode cX9_readNumber 122 = .ok (.iconst 1, 1) := by decide +kernel
theorem dX9_readNumber_123 : decode cX9_readNumber 123 = .ok (.ireturn, 1) := by decide +kernel
theorem dX10_init_0 : decode cX10_init 0 = .ok (.aload_n 0, 1) := by decide +kernel
theorem dX10_init_1 : decode cX10_init 1 = .ok (.invokespecial 3, 3) := by decide +kernel
theorem dX10_init_4 : decode cX10_init 4 = .ok (.aload_n 0, 1) := by decide +kernel
theorem dX10_init_5 : decode cX10_init 5 = .ok (.bipush 10, 2) := by decide +kernel
theorem dX10_init_7 : decode cX10_init 7 = .ok (.newarray .int, 2) := by decide +kernel
theorem dX10_init_9 : decode cX10_init 9 = .ok (.putfield 11, 3) := by decide +kernel
theorem dX10_init_12 : decode cX10_init 12 = .ok (.aload_n 0, 1) := by decide +kernel
theorem dX10_init_13 : decode cX10_init 13 = .ok (.bipush 10, 2) := by decide +kernel
theorem dX10_init_15 : decode cX10_init 15 = .ok (.newarray .int, 2) := by decide +kernel
theorem dX10_init_17 : decode cX10_init 17 = .ok (.putfield 15, 3) := by decide +kernel
theorem dX10_init_20 : decode cX10_init 20 = .ok (.aload_n 0, 1) := by decide +kernel
theorem dX10_init_21 : decode cX10_init 21 = .ok (.bipush 10, 2) := by decide +kernel
theorem dX10_init_23 : decode cX10_init 23 = .ok (.newarray .boolean, 2) := by decide +kernel
theorem dX10_init_25 : decode cX10_init 25 = .ok (.putfield 18, 3) := by decide +kernel
theorem dX10_init_28 : decode cX10_init 28 = .ok (.aload_n 0, 1) := by decide +kernel
theorem dX10_init_29 : decode cX10_init 29 = .ok (.bipush 7, 2) := by decide +kernel
theorem dX10_init_31 : decode cX10_init 31 = .ok (.newarray .int, 2) := by decide +kernel
theorem dX10_init_33 : decode cX10_init 33 = .ok (.putfield 22, 3) := by decide +kernel
theorem dX10_init_36 : decode cX10_init 36 = .ok (.aload_n 0, 1) := by decide +kernel
theorem dX10_init_37 : decode cX10_init 37 = .ok (.bipush 7, 2) := by decide +kernel
theorem dX10_init_39 : decode cX10_init 39 = .ok (.newarray .int, 2) := by decide +kernel
theorem dX10_init_41 : decode cX10_init 41 = .ok (.putfield 25, 3) := by decide +kernel
theorem dX10_init_44 : decode cX10_init 44 = .ok (.aload_n 0, 1) := by decide +kernel
theorem dX10_init_45 : decode cX10_init 45 = .ok (.aload_n 1, 1) := by decide +kernel
theorem dX10_init_46 : decode cX10_init 46 = .ok (.putfield 28, 3) := by decide +kernel
theorem dX10_init_49 : decode cX10_init 49 = .ok (.return_, 1) := by decide +kernel
theorem dX10_forget_0 : decode cX10_forget 0 = .ok (.aload_n 0, 1) := by decide +kernel
theorem dX10_forget_1 : decode cX10_forget 1 = .ok (.iconst 0, 1) := by decide +kernel
theorem dX10_forget_2 : decode cX10_forget 2 = .ok (.putfield 32, 3) := by decide +kernel
theorem dX10_forget_5 : decode cX10_forget 5 = .ok (.return_, 1) := by decide +kernel
theorem dX10_put_0 : decode cX10_put 0 = .ok (.aload_n 0, 1) := by decide +kernel
theorem dX10_put_1 : decode cX10_put 1 = .ok (.getfield 32, 3) := by decide +kernel
theorem dX10_put_4 : decode cX10_put 4 = .ok (.bipush 10, 2) := by decide +kernel
theorem dX10_put_6 : decode cX10_put 6 = .ok (.if_icmp .lt 5, 3) := by decide +kernel
theorem dX10_put_9 : decode cX10_put 9 = .ok (.iconst (-1), 1) := by decide +kernel
theorem dX10_put_10 : decode cX10_put 10 = .ok (.ireturn, 1) := by decide +kernel
theorem dX10_put_11 : decode cX10_put 11 = .ok (.aload_n 0, 1) := by decide +kernel
theorem dX10_put_12 : decode cX10_put 12 = .ok (.getfield 11, 3) := by decide +kernel
theorem dX10_put_15 : decode cX10_put 15 = .ok (.aload_n 0, 1) := by decide +kernel
theorem dX10_put_16 : decode cX10_put 16 = .ok (.getfield 32, 3) := by decide +kernel
theorem dX10_put_19 : decode cX10_put 19 = .ok (.iload_n 1, 1) := by decide +kernel
theorem dX10_put_20 : decode cX10_put 20 = .ok (.iastore, 1) := by decide +kernel
theorem dX10_put_21 : decode cX10_put 21 = .ok (.aload_n 0, 1) := by decide +kernel
theorem dX10_put_22 : decode cX10_put 22 = .ok (.getfield 15, 3) := by decide +kernel
theorem dX10_put_25 : decode cX10_put 25 = .ok (.aload_n 0, 1) := by decide +kernel
theorem dX10_put_26 : decode cX10_put 26 = .ok (.getfield 32, 3) := by decide +kernel
theorem dX10_put_29 : decode cX10_put 29 = .ok (.iload_n 2, 1) := by decide +kernel
theorem dX10_put_30 : decode cX10_put 30 = .ok (.iastore, 1) := by decide +kernel
theorem dX10_put_31 : decode cX10_put 31 = .ok (.aload_n 0, 1) := by decide +kernel
theorem dX10_put_32 : decode cX10_put 32 = .ok (.getfield 18, 3) := by decide +kernel
theorem dX10_put_35 : decode cX10_put 35 = .ok (.aload_n 0, 1) := by decide +kernel
theorem dX10_put_36 : decode cX10_put 36 = .ok (.getfield 32, 3) := by decide +kernel
theorem dX10_put_39 : decode cX10_put 39 = .ok (.iload_n 3, 1) := by decide +kernel
theorem dX10_put_40 : decode cX10_put 40 = .ok (.bastore, 1) := by decide +kernel
theorem dX10_put_41 : decode cX10_put 41 = .ok (.aload_n 0, 1) := by decide +kernel
theorem dX10_put_42 : decode cX10_put 42 = .ok (.dup, 1) := by decide +kernel
theorem dX10_put_43 : decode cX10_put 43 = .ok (.getfield 32, 3) := by decide +kernel
theorem dX10_put_46 : decode cX10_put 46 = .ok (.iconst 1, 1) := by decide +kernel
theorem dX10_put_47 : decode cX10_put 47 = .ok (.iadd, 1) := by decide +kernel
theorem dX10_put_48 : decode cX10_put 48 = .ok (.putfield 32, 3) := by decide +kernel
theorem dX10_put_51 : decode cX10_put 51 = .ok (.aload_n 0, 1) := by decide +kernel
theorem dX10_put_52 : decode cX10_put 52 = .ok (.getfield 32, 3) := by decide +kernel
theorem dX10_put_55 : decode cX10_put 55 = .ok (.ireturn, 1) := by decide +kernel
theorem dX10_gather_0 : decode cX10_gather 0 = .ok (.aload_n 0, 1) := by decide +kernel
theorem dX10_gather_1 : decode cX10_gather 1 = .ok (.iload_n 2, 1) := by decide +kernel
theorem dX10_gather_2 : decode cX10_gather 2 = .ok (.putfield 36, 3) := by decide +kernel
theorem dX10_gather_5 : decode cX10_gather 5 = .ok (.aload_n 0, 1) := by decide +kernel
theorem dX10_gather_6 : decode cX10_gather 6 = .ok (.iload_n 3, 1) := by decide +kernel
theorem dX10_gather_7 : decode cX10_gather 7 = .ok (.putfield 39, 3) := by decide +kernel
theorem dX10_gather_10 : decode cX10_gather 10 = .ok (.aload_n 0, 1) := by decide +kernel
theorem dX10_gather_11 : decode cX10_gather 11 = .ok (.iconst 0, 1) := by decide +kernel
theorem dX10_gather_12 : decode cX10_gather 12 = .ok (.putfield 42, 3) := by decide +kernel
theorem dX10_gather_15 : decode cX10_gather 15 = .ok (.aload_n 0, 1) := by decide +kernel
theorem dX10_gather_16 : decode cX10_gather 16 = .ok (.iconst (-1), 1) := by decide +kernel
theorem dX10_gather_17 : decode cX10_gather 17 = .ok (.putfield 45, 3) := by decide +kernel
theorem dX10_gather_20 : decode cX10_gather 20 = .ok (.aload_n 0, 1) := by decide +kernel
theorem dX10_gather_21 : decode cX10_gather 21 = .ok (.iconst 1, 1) := by decide +kernel
theorem dX10_gather_22 : decode cX10_gather 22 = .ok (.aload_n 0, 1) := by decide +kernel
theorem dX10_gather_23 : decode cX10_gather 23 = .ok (.getfield 28, 3) := by decide +kernel
theorem dX10_gather_26 : decode cX10_gather 26 = .ok (.getfield 48, 3) := by decide +kernel
theorem dX10_gather_29 : decode cX10_gather 29 = .ok (.ishl, 1) := by decide +kernel
theorem dX10_gather_30 : decode cX10_gather 30 = .ok (.iconst 1, 1) := by decide +kernel
theorem dX10_gather_31 : decode cX10_gather 31 = .ok (.isub, 1) := by decide +kernel
theorem dX10_gather_32 : decode cX10_gather 32 = .ok (.putfield 53, 3) := by decide +kernel
theorem dX10_gather_35 : decode cX10_gather 35 = .ok (.iconst 0, 1) := by decide +kernel
theorem dX10_gather_36 : decode cX10_gather 36 = .ok (.istore 4, 2) := by decide +kernel
theorem dX10_gather_38 : decode cX10_gather 38 = .ok (.iload 4, 2) := by decide +kernel
theorem dX10_gather_40 : decode cX10_gather 40 = .ok (.bipush 7, 2) := by decide +kernel
theorem dX10_gather_42 : decode cX10_gather 42 = .ok (.if_icmp .ge 27, 3) := by decide +kernel
theorem dX10_gather_45 : decode cX10_gather 45 = .ok (.aload_n 0, 1) := by decide +kernel
theorem dX10_gather_46 : decode cX10_gather 46 = .ok (.getfield 22, 3) := by decide +kernel
theorem dX10_gather_49 : decode cX10_gather 49 = .ok (.iload 4, 2) := by decide +kernel
theorem dX10_gather_51 : decode cX10_gather 51 = .ok (.sipush 1000, 3) := by decide +kernel
theorem dX10_gather_54 : decode cX10_gather 54 = .ok (.iastore, 1) := by decide +kernel
theorem dX10_gather_55 : decode cX10_gather 55 = .ok (.aload_n 0, 1) := by decide +kernel
theorem dX10_gather_56 : decode cX10_gather 56 = .ok (.getfield 25, 3) := by decide +kernel
theorem dX10_gather_59 : decode cX10_gather 59 = .ok (.iload 4, 2) := by decide +kernel
theorem dX10_gather_61 : decode cX10_gather 61 = .ok (.iconst 0, 1) := by decide +kernel
theorem dX10_gather_62 : decode cX10_gather 62 = .ok (.iastore, 1) := by decide +kernel
theorem dX10_gather_63 : decode cX10_gather 63 = .ok (.iinc 4 1, 3) := by decide +kernel
theorem dX10_gather_66 : decode cX10_gather 66 = .ok (.goto (-28), 3) := by decide +kernel
theorem dX10_gather_69 : decode cX10_gather 69 = .ok (.aload_n 0, 1) := by decide +kernel
theorem dX10_gather_70 : decode cX10_gather 70 = .ok (.iload_n 1, 1) := by decide +kernel
theorem dX10_gather_71 : decode cX10_gather 71 = .ok (.iconst (-1), 1) := by decide +kernel
theorem dX10_gather_72 : decode cX10_gather 72 = .ok (.iconst 0, 1) := by decide +kernel
theorem dX10_gather_73 : decode cX10_gather 73 = .ok (.iconst 0, 1) := by decide +kernel
theorem dX10_gather_74 : decode cX10_gather 74 = .ok (.iconst 0, 1) := by decide +kernel
theorem dX10_gather_75 : decode cX10_gather 75 = .ok (.invokevirtual 56, 3) := by decide +kernel
theorem dX10_gather_78 : decode cX10_gather 78 = .ok (.return_, 1) := by decide +kernel
theorem dX10_goOn_0 : decode cX10_goOn 0 = .ok (.iload_n 1, 1) := by decide +kernel
theorem dX10_goOn_1 : decode cX10_goOn 1 = .ok (.ifCond .ne 19, 3) := by decide +kernel
theorem dX10_goOn_4 : decode cX10_goOn 4 = .ok (.aload_n 0, 1) := by decide +kernel
theorem dX10_goOn_5 : decode cX10_goOn 5 = .ok (.invokevirtual 60, 3) := by decide +kernel
theorem dX10_goOn_8 : decode cX10_goOn 8 = .ok (.ifCond .eq 11, 3) := by decide +kernel
theorem dX10_goOn_11 : decode cX10_goOn 11 = .ok (.aload_n 0, 1) := by decide +kernel
theorem dX10_goOn_12 : decode cX10_goOn 12 = .ok (.iload 4, 2) := by decide +kernel
theorem dX10_goOn_14 : decode cX10_goOn 14 = .ok (.iload 5, 2) := by decide +kernel
theorem dX10_goOn_16 : decode cX10_goOn 16 = .ok (.invokevirtual 64, 3) := by decide +kernel
theorem dX10_goOn_19 : decode cX10_goOn 19 = .ok (.return_, 1) := by decide +kernel
theorem dX10_goOn_20 : decode cX10_goOn 20 = .ok (.iconst 0, 1) := by decide +kernel
theorem dX10_goOn_21 : decode cX10_goOn 21 = .ok (.istore 6, 2) := by decide +kernel
theorem dX10_goOn_23 : decode cX10_goOn 23 = .ok (.iload 6, 2) := by decide +kernel
theorem dX10_goOn_25 : decode cX10_goOn 25 = .ok (.aload_n 0, 1) := by decide +kernel
theorem dX10_goOn_26 : decode cX10_goOn 26 = .ok (.getfield 28, 3) := by decide +kernel
theorem dX10_goOn_29 : decode cX10_goOn 29 = .ok (.getfield 48, 3) := by decide +kernel
theorem dX10_goOn_32 : decode cX10_goOn 32 = .ok (.if_icmp .ge 80, 3) := by decide +kernel
theorem dX10_goOn_35 : decode cX10_goOn 35 = .ok (.iload 4, 2) := by decide +kernel
theorem dX10_goOn_37 : decode cX10_goOn 37 = .ok (.iload 6, 2) := by decide +kernel
theorem dX10_goOn_39 : decode cX10_goOn 39 = .ok (.invokestatic 68, 3) := by decide +kernel
theorem dX10_goOn_42 : decode cX10_goOn 42 = .ok (.ifCond .ne 64, 3) := by decide +kernel
theorem dX10_goOn_45 : decode cX10_goOn 45 = .ok (.iload_n 3, 1) := by decide +kernel
theorem dX10_goOn_46 : decode cX10_goOn 46 = .ok (.aload_n 0, 1) := by decide +kernel
theorem dX10_goOn_47 : decode cX10_goOn 47 = .ok (.getfield 28, 3) := by decide +kernel
theorem dX10_goOn_50 : decode cX10_goOn 50 = .ok (.iload_n 2, 1) := by decide +kernel
theorem dX10_goOn_51 : decode cX10_goOn 51 = .ok (.iload 6, 2) := by decide +kernel
theorem dX10_goOn_53 : decode cX10_goOn 53 = .ok (.invokevirtual 72, 3) := by decide +kernel
theorem dX10_goOn_56 : decode cX10_goOn 56 = .ok (.iadd, 1) := by decide +kernel
theorem dX10_goOn_57 : decode cX10_goOn 57 = .ok (.istore 7, 2) := by decide +kernel
theorem dX10_goOn_59 : decode cX10_goOn 59 = .ok (.aload_n 0, 1) := by decide +kernel
theorem dX10_goOn_60 : decode cX10_goOn 60 = .ok (.getfield 22, 3) := by decide +kernel
theorem dX10_goOn_63 : decode cX10_goOn 63 = .ok (.iload 6, 2) := by decide +kernel
theorem dX10_goOn_65 : decode cX10_goOn 65 = .ok (.iload 7, 2) := by decide +kernel
theorem dX10_goOn_67 : decode cX10_goOn 67 = .ok (.iastore, 1) := by decide +kernel
theorem dX10_goOn_68 : decode cX10_goOn 68 = .ok (.aload_n 0, 1) := by decide +kernel
theorem dX10_goOn_69 : decode cX10_goOn 69 = .ok (.iload_n 1, 1) := by decide +kernel
theorem dX10_goOn_70 : decode cX10_goOn 70 = .ok (.iconst 1, 1) := by decide +kernel
theorem dX10_goOn_71 : decode cX10_goOn 71 = .ok (.isub, 1) := by decide +kernel
theorem dX10_goOn_72 : decode cX10_goOn 72 = .ok (.iload 6, 2) := by decide +kernel
theorem dX10_goOn_74 : decode cX10_goOn 74 = .ok (.iload 7, 2) := by decide +kernel
theorem dX10_goOn_76 : decode cX10_goOn 76 = .ok (.iconst 1, 1) := by decide +kernel
theorem dX10_goOn_77 : decode cX10_goOn 77 = .ok (.iadd, 1) := by decide +kernel
theorem dX10_goOn_78 : decode cX10_goOn 78 = .ok (.iload 4, 2) := by decide +kernel
theorem dX10_goOn_80 : decode cX10_goOn 80 = .ok (.iconst 1, 1) := by decide +kernel
theorem dX10_goOn_81 : decode cX10_goOn 81 = .ok (.iload 6, 2) := by decide +kernel
theorem dX10_goOn_83 : decode cX10_goOn 83 = .ok (.ishl, 1) := by decide +kernel
theorem dX10_goOn_84 : decode cX10_goOn 84 = .ok (.ior, 1) := by decide +kernel
theorem dX10_goOn_85 : decode cX10_goOn 85 = .ok (.iload 5, 2) := by decide +kernel
theorem dX10_goOn_87 : decode cX10_goOn 87 = .ok (.bipush 10, 2) := by decide +kernel
theorem dX10_goOn_89 : decode cX10_goOn 89 = .ok (.imul, 1) := by decide +kernel
theorem dX10_goOn_90 : decode cX10_goOn 90 = .ok (.iload 6, 2) := by decide +kernel
theorem dX10_goOn_92 : decode cX10_goOn 92 = .ok (.iadd, 1) := by decide +kernel
theorem dX10_goOn_93 : decode cX10_goOn 93 = .ok (.invokevirtual 56, 3) := by decide +kernel
theorem dX10_goOn_96 : decode cX10_goOn 96 = .ok (.aload_n 0, 1) := by decide +kernel
theorem dX10_goOn_97 : decode cX10_goOn 97 = .ok (.getfield 22, 3) := by decide +kernel
theorem dX10_goOn_100 : decode cX10_goOn 100 = .ok (.iload 6, 2) := by decide +kernel
theorem dX10_goOn_102 : decode cX10_goOn 102 = .ok (.sipush 1000, 3) := by decide +kernel
theorem dX10_goOn_105 : decode cX10_goOn 105 = .ok (.iastore, 1) := by decide +kernel
theorem dX10_goOn_106 : decode cX10_goOn 106 = .ok (.iinc 6 1, 3) := by decide +kernel
theorem dX10_goOn_109 : decode cX10_goOn 109 = .ok (.goto (-86), 3) := by decide +kernel
theorem dX10_goOn_112 : decode cX10_goOn 112 = .ok (.return_, 1) := by decide +kernel
theorem dX10_fits_0 : decode cX10_fits 0 = .ok (.iconst 0, 1) := by decide +kernel
theorem dX10_fits_1 : decode cX10_fits 1 = .ok (.istore_n 1, 1) := by decide +kernel
theorem dX10_fits_2 : decode cX10_fits 2 = .ok (.iload_n 1, 1) := by decide +kernel
theorem dX10_fits_3 : decode cX10_fits 3 = .ok (.aload_n 0, 1) := by decide +kernel
theorem dX10_fits_4 : decode cX10_fits 4 = .ok (.getfield 32, 3) := by decide +kernel
theorem dX10_fits_7 : decode cX10_fits 7 = .ok (.if_icmp .ge 36, 3) := by decide +kernel
theorem dX10_fits_10 : decode cX10_fits 10 = .ok (.aload_n 0, 1) := by decide +kernel
theorem dX10_fits_11 : decode cX10_fits 11 = .ok (.aload_n 0, 1) := by decide +kernel
theorem dX10_fits_12 : decode cX10_fits 12 = .ok (.getfield 11, 3) := by decide +kernel
theorem dX10_fits_15 : decode cX10_fits 15 = .ok (.iload_n 1, 1) := by decide +kernel
theorem dX10_fits_16 : decode cX10_fits 16 = .ok (.iaload, 1) := by decide +kernel
theorem dX10_fits_17 : decode cX10_fits 17 = .ok (.aload_n 0, 1) := by decide +kernel
theorem dX10_fits_18 : decode cX10_fits 18 = .ok (.getfield 15, 3) := by decide +kernel
theorem dX10_fits_21 : decode cX10_fits 21 = .ok (.iload_n 1, 1) := by decide +kernel
theorem dX10_fits_22 : decode cX10_fits 22 = .ok (.iaload, 1) := by decide +kernel
theorem dX10_fits_23 : decode cX10_fits 23 = .ok (.invokevirtual 76, 3) := by decide +kernel
theorem dX10_fits_26 : decode cX10_fits 26 = .ok (.aload_n 0, 1) := by decide +kernel
theorem dX10_fits_27 : decode cX10_fits 27 = .ok (.getfield 18, 3) := by decide +kernel
theorem dX10_fits_30 : decode cX10_fits 30 = .ok (.iload_n 1, 1) := by decide +kernel
theorem dX10_fits_31 : decode cX10_fits 31 = .ok (.baload, 1) := by decide +kernel
theorem dX10_fits_32 : decode cX10_fits 32 = .ok (.if_icmp .eq 5, 3) := by decide +kernel
theorem dX10_fits_35 : decode cX10_fits 35 = .ok (.iconst 0, 1) := by decide +kernel
theorem dX10_fits_36 : decode cX10_fits 36 = .ok (.ireturn, 1) := by decide +kernel
theorem dX10_fits_37 : decode cX10_fits 37 = .ok (.iinc 1 1, 3) := by decide +kernel
theorem dX10_fits_40 : decode cX10_fits 40 = .ok (.goto (-38), 3) := by decide +kernel
theorem dX10_fits_43 : decode cX10_fits 43 = .ok (.iconst 1, 1) := by decide +kernel
theorem dX10_fits_44 : decode cX10_fits 44 = .ok (.ireturn, 1) := by decide +kernel
theorem dX10_hasBeen_0 : decode cX10_hasBeen 0 = .ok (.aload_n 0, 1) := by decide +kernel
theorem dX10_hasBeen_1 : decode cX10_hasBeen 1 = .ok (.getfield 28, 3) := by decide +kernel
theorem dX10_hasBeen_4 : decode cX10_hasBeen 4 = .ok (.iload_n 1, 1) := by decide +kernel
theorem dX10_hasBeen_5 : decode cX10_hasBeen 5 = .ok (.invokevirtual 79, 3) := by decide +kernel
theorem dX10_hasBeen_8 : decode cX10_hasBeen 8 = .ok (.ifCond .eq 17, 3) := by decide +kernel
theorem dX10_hasBeen_11 : decode cX10_hasBeen 11 = .ok (.aload_n 0, 1) := by decide +kernel
theorem dX10_hasBeen_12 : decode cX10_hasBeen 12 = .ok (.getfield 22, 3) := by decide +kernel
theorem dX10_hasBeen_15 : decode cX10_hasBeen 15 = .ok (.iload_n 1, 1) := by decide +kernel
theorem dX10_hasBeen_16 : decode cX10_hasBeen 16 = .ok (.iaload, 1) := by decide +kernel
theorem dX10_hasBeen_17 : decode cX10_hasBeen 17 = .ok (.iload_n 2, 1) := by decide +kernel
theorem dX10_hasBeen_18 : decode cX10_hasBeen 18 = .ok (.if_icmp .gt 7, 3) := by decide +kernel
theorem dX10_hasBeen_21 : decode cX10_hasBeen 21 = .ok (.iconst 1, 1) := by decide +kernel
theorem dX10_hasBeen_22 : decode cX10_hasBeen 22 = .ok (.goto 4, 3) := by decide +kernel
theorem dX10_hasBeen_25 : decode cX10_hasBeen 25 = .ok (.iconst 0, 1) := by decide +kernel
theorem dX10_hasBeen_26 : decode cX10_hasBeen 26 = .ok (.ireturn, 1) := by decide +kernel
theorem dX10_tally_0 : decode cX10_tally 0 = .ok (.aload_n 0, 1) := by decide +kernel
theorem dX10_tally_1 : decode cX10_tally 1 = .ok (.getfield 42, 3) := by decide +kernel
theorem dX10_tally_4 : decode cX10_tally 4 = .ok (.aload_n 0, 1) := by decide +kernel
theorem dX10_tally_5 : decode cX10_tally 5 = .ok (.getfield 36, 3) := by decide +kernel
theorem dX10_tally_8 : decode cX10_tally 8 = .ok (.if_icmp .ne 8, 3) := by decide +kernel
theorem dX10_tally_11 : decode cX10_tally 11 = .ok (.aload_n 0, 1) := by decide +kernel
theorem dX10_tally_12 : decode cX10_tally 12 = .ok (.iload_n 2, 1) := by decide +kernel
theorem dX10_tally_13 : decode cX10_tally 13 = .ok (.putfield 45, 3) := by decide +kernel
theorem dX10_tally_16 : decode cX10_tally 16 = .ok (.aload_n 0, 1) := by decide +kernel
theorem dX10_tally_17 : decode cX10_tally 17 = .ok (.dup, 1) := by decide +kernel
theorem dX10_tally_18 : decode cX10_tally 18 = .ok (.getfield 42, 3) := by decide +kernel
theorem dX10_tally_21 : decode cX10_tally 21 = .ok (.iconst 1, 1) := by decide +kernel
theorem dX10_tally_22 : decode cX10_tally 22 = .ok (.iadd, 1) := by decide +kernel
theorem dX10_tally_23 : decode cX10_tally 23 = .ok (.putfield 42, 3) := by decide +kernel
theorem dX10_tally_26 : decode cX10_tally 26 = .ok (.aload_n 0, 1) := by decide +kernel
theorem dX10_tally_27 : decode cX10_tally 27 = .ok (.dup, 1) := by decide +kernel
theorem dX10_tally_28 : decode cX10_tally 28 = .ok (.getfield 53, 3) := by decide +kernel
theorem dX10_tally_31 : decode cX10_tally 31 = .ok (.iload_n 1, 1) := by decide +kernel
theorem dX10_tally_32 : decode cX10_tally 32 = .ok (.iand, 1) := by decide +kernel
theorem dX10_tally_33 : decode cX10_tally 33 = .ok (.putfield 53, 3) := by decide +kernel
theorem dX10_tally_36 : decode cX10_tally 36 = .ok (.iconst 0, 1) := by decide +kernel
theorem dX10_tally_37 : decode cX10_tally 37 = .ok (.istore_n 3, 1) := by decide +kernel
theorem dX10_tally_38 : decode cX10_tally 38 = .ok (.iload_n 3, 1) := by decide +kernel
theorem dX10_tally_39 : decode cX10_tally 39 = .ok (.aload_n 0, 1) := by decide +kernel
theorem dX10_tally_40 : decode cX10_tally 40 = .ok (.getfield 28, 3) := by decide +kernel
theorem dX10_tally_43 : decode cX10_tally 43 = .ok (.getfield 48, 3) := by decide +kernel
theorem dX10_tally_46 : decode cX10_tally 46 = .ok (.if_icmp .ge 31, 3) := by decide +kernel
theorem dX10_tally_49 : decode cX10_tally 49 = .ok (.aload_n 0, 1) := by decide +kernel
theorem dX10_tally_50 : decode cX10_tally 50 = .ok (.iload_n 3, 1) := by decide +kernel
theorem dX10_tally_51 : decode cX10_tally 51 = .ok (.aload_n 0, 1) := by decide +kernel
theorem dX10_tally_52 : decode cX10_tally 52 = .ok (.getfield 39, 3) := by decide +kernel
theorem dX10_tally_55 : decode cX10_tally 55 = .ok (.invokevirtual 76, 3) := by decide +kernel
theorem dX10_tally_58 : decode cX10_tally 58 = .ok (.ifCond .eq 13, 3) := by decide +kernel
theorem dX10_tally_61 : decode cX10_tally 61 = .ok (.aload_n 0, 1) := by decide +kernel
theorem dX10_tally_62 : decode cX10_tally 62 = .ok (.getfield 25, 3) := by decide +kernel
theorem dX10_tally_65 : decode cX10_tally 65 = .ok (.iload_n 3, 1) := by decide +kernel
theorem dX10_tally_66 : decode cX10_tally 66 = .ok (.dup2, 1) := by decide +kernel
theorem dX10_tally_67 : decode cX10_tally 67 = .ok (.iaload, 1) := by decide +kernel
theorem dX10_tally_68 : decode cX10_tally 68 = .ok (.iconst 1, 1) := by decide +kernel
theorem dX10_tally_69 : decode cX10_tally 69 = .ok (.iadd, 1) := by decide +kernel
theorem dX10_tally_70 : decode cX10_tally 70 = .ok (.iastore, 1) := by decide +kernel
theorem dX10_tally_71 : decode cX10_tally 71 = .ok (.iinc 3 1, 3) := by decide +kernel
theorem dX10_tally_74 : decode cX10_tally 74 = .ok (.goto (-36), 3) := by decide +kernel
theorem dX10_tally_77 : decode cX10_tally 77 = .ok (.return_, 1) := by decide +kernel
theorem dX10_evenest_0 : decode cX10_evenest 0 = .ok (.iconst 0, 1) := by decide +kernel
theorem dX10_evenest_1 : decode cX10_evenest 1 = .ok (.istore_n 1, 1) := by decide +kernel
theorem dX10_evenest_2 : decode cX10_evenest 2 = .ok (.iconst 1, 1) := by decide +kernel
theorem dX10_evenest_3 : decode cX10_evenest 3 = .ok (.istore_n 2, 1) := by decide +kernel
theorem dX10_evenest_4 : decode cX10_evenest 4 = .ok (.iload_n 2, 1) := by decide +kernel
theorem dX10_evenest_5 : decode cX10_evenest 5 = .ok (.aload_n 0, 1) := by decide +kernel
theorem dX10_evenest_6 : decode cX10_evenest 6 = .ok (.getfield 28, 3) := by decide +kernel
theorem dX10_evenest_9 : decode cX10_evenest 9 = .ok (.getfield 48, 3) := by decide +kernel
theorem dX10_evenest_12 : decode cX10_evenest 12 = .ok (.if_icmp .ge 46, 3) := by decide +kernel
theorem dX10_evenest_15 : decode cX10_evenest 15 = .ok (.aload_n 0, 1) := by decide +kernel
theorem dX10_evenest_16 : decode cX10_evenest 16 = .ok (.getfield 42, 3) := by decide +kernel
theorem dX10_evenest_19 : decode cX10_evenest 19 = .ok (.iconst 2, 1) := by decide +kernel
theorem dX10_evenest_20 : decode cX10_evenest 20 = .ok (.aload_n 0, 1) := by decide +kernel
theorem dX10_evenest_21 : decode cX10_evenest 21 = .ok (.getfield 25, 3) := by decide +kernel
theorem dX10_evenest_24 : decode cX10_evenest 24 = .ok (.iload_n 2, 1) := by decide +kernel
theorem dX10_evenest_25 : decode cX10_evenest 25 = .ok (.iaload, 1) := by decide +kernel
theorem dX10_evenest_26 : decode cX10_evenest 26 = .ok (.imul, 1) := by decide +kernel
theorem dX10_evenest_27 : decode cX10_evenest 27 = .ok (.isub, 1) := by decide +kernel
theorem dX10_evenest_28 : decode cX10_evenest 28 = .ok (.invokestatic 83, 3) := by decide +kernel
theorem dX10_evenest_31 : decode cX10_evenest 31 = .ok (.aload_n 0, 1) := by decide +kernel
theorem dX10_evenest_32 : decode cX10_evenest 32 = .ok (.getfield 42, 3) := by decide +kernel
theorem dX10_evenest_35 : decode cX10_evenest 35 = .ok (.iconst 2, 1) := by decide +kernel
theorem dX10_evenest_36 : decode cX10_evenest 36 = .ok (.aload_n 0, 1) := by decide +kernel
theorem dX10_evenest_37 : decode cX10_evenest 37 = .ok (.getfield 25, 3) := by decide +kernel
theorem dX10_evenest_40 : decode cX10_evenest 40 = .ok (.iload_n 1, 1) := by decide +kernel
theorem dX10_evenest_41 : decode cX10_evenest 41 = .ok (.iaload, 1) := by decide +kernel
theorem dX10_evenest_42 : decode cX10_evenest 42 = .ok (.imul, 1) := by decide +kernel
theorem dX10_evenest_43 : decode cX10_evenest 43 = .ok (.isub, 1) := by decide +kernel
theorem dX10_evenest_44 : decode cX10_evenest 44 = .ok (.invokestatic 83, 3) := by decide +kernel
theorem dX10_evenest_47 : decode cX10_evenest 47 = .ok (.if_icmp .ge 5, 3) := by decide +kernel
theorem dX10_evenest_50 : decode cX10_evenest 50 = .ok (.iload_n 2, 1) := by decide +kernel
theorem dX10_evenest_51 : decode cX10_evenest 51 = .ok (.istore_n 1, 1) := by decide +kernel
theorem dX10_evenest_52 : decode cX10_evenest 52 = .ok (.iinc 2 1, 3) := by decide +kernel
theorem dX10_evenest_55 : decode cX10_evenest 55 = .ok (.goto (-51), 3) := by decide +kernel
theorem dX10_evenest_58 : decode cX10_evenest 58 = .ok (.iload_n 1, 1) := by decide +kernel
theorem dX10_evenest_59 : decode cX10_evenest 59 = .ok (.ireturn, 1) := by decide +kernel
theorem dX11_init_0 : decode cX11_init 0 = .ok (.aload_n 0, 1) := by decide +kernel
theorem dX11_init_1 : decode cX11_init 1 = .ok (.invokespecial 1, 3) := by decide +kernel
theorem dX11_init_4 : decode cX11_init 4 = .ok (.aload_n 0, 1) := by decide +kernel
theorem dX11_init_5 : decode cX11_init 5 = .ok (.new 7, 3) := by decide +kernel
theorem dX11_init_8 : decode cX11_init 8 = .ok (.dup, 1) := by decide +kernel
theorem dX11_init_9 : decode cX11_init 9 = .ok (.invokespecial 9, 3) := by decide +kernel
theorem dX11_init_12 : decode cX11_init 12 = .ok (.putfield 10, 3) := by decide +kernel
theorem dX11_init_15 : decode cX11_init 15 = .ok (.aload_n 0, 1) := by decide +kernel
theorem dX11_init_16 : decode cX11_init 16 = .ok (.new 16, 3) := by decide +kernel
theorem dX11_init_19 : decode cX11_init 19 = .ok (.dup, 1) := by decide +kernel
theorem dX11_init_20 : decode cX11_init 20 = .ok (.invokespecial 18, 3) := by decide +kernel
theorem dX11_init_23 : decode cX11_init 23 = .ok (.putfield 19, 3) := by decide +kernel
theorem dX11_init_26 : decode cX11_init 26 = .ok (.aload_n 0, 1) := by decide +kernel
theorem dX11_init_27 : decode cX11_init 27 = .ok (.new 16, 3) := by decide +kernel
theorem dX11_init_30 : decode cX11_init 30 = .ok (.dup, 1) := by decide +kernel
theorem dX11_init_31 : decode cX11_init 31 = .ok (.invokespecial 18, 3) := by decide +kernel
theorem dX11_init_34 : decode cX11_init 34 = .ok (.putfield 23, 3) := by decide +kernel
theorem dX11_init_37 : decode cX11_init 37 = .ok (.aload_n 0, 1) := by decide +kernel
theorem dX11_init_38 : decode cX11_init 38 = .ok (.new 26, 3) := by decide +kernel
theorem dX11_init_41 : decode cX11_init 41 = .ok (.dup, 1) := by decide +kernel
theorem dX11_init_42 : decode cX11_init 42 = .ok (.aload_n 0, 1) := by decide +kernel
theorem dX11_init_43 : decode cX11_init 43 = .ok (.getfield 10, 3) := by decide +kernel
theorem dX11_init_46 : decode cX11_init 46 = .ok (.aload_n 0, 1) := by decide +kernel
theorem dX11_init_47 : decode cX11_init 47 = .ok (.getfield 23, 3) := by decide +kernel
theorem dX11_init_50 : decode cX11_init 50 = .ok (.invokespecial 28, 3) := by decide +kernel
theorem dX11_init_53 : decode cX11_init 53 = .ok (.putfield 31, 3) := by decide +kernel
theorem dX11_init_56 : decode cX11_init 56 = .ok (.aload_n 0, 1) := by decide +kernel
theorem dX11_init_57 : decode cX11_init 57 = .ok (.new 35, 3) := by decide +kernel
theorem dX11_init_60 : decode cX11_init 60 = .ok (.dup, 1) := by decide +kernel
theorem dX11_init_61 : decode cX11_init 61 = .ok (.aload_n 0, 1) := by decide +kernel
theorem dX11_init_62 : decode cX11_init 62 = .ok (.getfield 10, 3) := by decide +kernel
theorem dX11_init_65 : decode cX11_init 65 = .ok (.invokespecial 37, 3) := by decide +kernel
theorem dX11_init_68 : decode cX11_init 68 = .ok (.putfield 40, 3) := by decide +kernel
theorem dX11_init_71 : decode cX11_init 71 = .ok (.aload_n 0, 1) := by decide +kernel
theorem dX11_init_72 : decode cX11_init 72 = .ok (.new 44, 3) := by decide +kernel
theorem dX11_init_75 : decode cX11_init 75 = .ok (.dup, 1) := by decide +kernel
theorem dX11_init_76 : decode cX11_init 76 = .ok (.aload_n 0, 1) := by decide +kernel
theorem dX11_init_77 : decode cX11_init 77 = .ok (.getfield 10, 3) := by decide +kernel
theorem dX11_init_80 : decode cX11_init 80 = .ok (.invokespecial 46, 3) := by decide +kernel
theorem dX11_init_83 : decode cX11_init 83 = .ok (.putfield 47, 3) := by decide +kernel
theorem dX11_init_86 : decode cX11_init 86 = .ok (.aload_n 0, 1) := by decide +kernel
theorem dX11_init_87 : decode cX11_init 87 = .ok (.new 51, 3) := by decide +kernel
theorem dX11_init_90 : decode cX11_init 90 = .ok (.dup, 1) := by decide +kernel
theorem dX11_init_91 : decode cX11_init 91 = .ok (.aload_n 0, 1) := by decide +kernel
theorem dX11_init_92 : decode cX11_init 92 = .ok (.getfield 19, 3) := by decide +kernel
theorem dX11_init_95 : decode cX11_init 95 = .ok (.aload_n 0, 1) := by decide +kernel
theorem dX11_init_96 : decode cX11_init 96 = .ok (.getfield 40, 3) := by decide +kernel
theorem dX11_init_99 : decode cX11_init 99 = .ok (.invokespecial 53, 3) := by decide +kernel
theorem dX11_init_102 : decode cX11_init 102 = .ok (.putfield 56, 3) := by decide +kernel
theorem dX11_init_105 : decode cX11_init 105 = .ok (.aload_n 0, 1) := by decide +kernel
theorem dX11_init_106 : decode cX11_init 106 = .ok (.new 51, 3) := by decide +kernel
theorem dX11_init_109 : decode cX11_init 109 = .ok (.dup, 1) := by decide +kernel
theorem dX11_init_110 : decode cX11_init 110 = .ok (.aload_n 0, 1) := by decide +kernel
theorem dX11_init_111 : decode cX11_init 111 = .ok (.getfield 19, 3) := by decide +kernel
theorem dX11_init_114 : decode cX11_init 114 = .ok (.aload_n 0, 1) := by decide +kernel
theorem dX11_init_115 : decode cX11_init 115 = .ok (.getfield 40, 3) := by decide +kernel
theorem dX11_init_118 : decode cX11_init 118 = .ok (.invokespecial 53, 3) := by decide +kernel
theorem dX11_init_121 : decode cX11_init 121 = .ok (.putfield 60, 3) := by decide +kernel
theorem dX11_init_124 : decode cX11_init 124 = .ok (.aload_n 0, 1) := by decide +kernel
theorem dX11_init_125 : decode cX11_init 125 = .ok (.new 63, 3) := by decide +kernel
theorem dX11_init_128 : decode cX11_init 128 = .ok (.dup, 1) := by decide +kernel
theorem dX11_init_129 : decode cX11_init 129 = .ok (.invokespecial 65, 3) := by decide +kernel
theorem dX11_init_132 : decode cX11_init 132 = .ok (.putfield 66, 3) := by decide +kernel
theorem dX11_init_135 : decode cX11_init 135 = .ok (.aload_n 0, 1) := by decide +kernel
theorem dX11_init_136 : decode cX11_init 136 = .ok (.new 70, 3) := by decide +kernel
theorem dX11_init_139 : decode cX11_init 139 = .ok (.dup, 1) := by decide +kernel
theorem dX11_init_140 : decode cX11_init 140 = .ok (.invokespecial 72, 3) := by decide +kernel
theorem dX11_init_143 : decode cX11_init 143 = .ok (.putfield 73, 3) := by decide +kernel
theorem dX11_init_146 : decode cX11_init 146 = .ok (.aload_n 0, 1) := by decide +kernel
theorem dX11_init_147 : decode cX11_init 147 = .ok (.bipush 28, 2) := by decide +kernel
theorem dX11_init_149 : decode cX11_init 149 = .ok (.newarray .int, 2) := by decide +kernel
theorem dX11_init_151 : decode cX11_init 151 = .ok (.putfield 77, 3) := by decide +kernel
theorem dX11_init_154 : decode cX11_init 154 = .ok (.aload_n 0, 1) := by decide +kernel
theorem dX11_init_155 : decode cX11_init 155 = .ok (.new 70, 3) := by decide +kernel
theorem dX11_init_158 : decode cX11_init 158 = .ok (.dup, 1) := by decide +kernel
theorem dX11_init_159 : decode cX11_init 159 = .ok (.invokespecial 72, 3) := by decide +kernel
theorem dX11_init_162 : decode cX11_init 162 = .ok (.putfield 81, 3) := by decide +kernel
theorem dX11_init_165 : decode cX11_init 165 = .ok (.aload_n 0, 1) := by decide +kernel
theorem dX11_init_166 : decode cX11_init 166 = .ok (.new 84, 3) := by decide +kernel
theorem dX11_init_169 : decode cX11_init 169 = .ok (.dup, 1) := by decide +kernel
theorem dX11_init_170 : decode cX11_init 170 = .ok (.aload_n 0, 1) := by decide +kernel
theorem dX11_init_171 : decode cX11_init 171 = .ok (.getfield 19, 3) := by decide +kernel
theorem dX11_init_174 : decode cX11_init 174 = .ok (.invokespecial 86, 3) := by decide +kernel
theorem dX11_init_177 : decode cX11_init 177 = .ok (.putfield 89, 3) := by decide +kernel
theorem dX11_init_180 : decode cX11_init 180 = .ok (.aload_n 0, 1) := by decide +kernel
theorem dX11_init_181 : decode cX11_init 181 = .ok (.new 93, 3) := by decide +kernel
theorem dX11_init_184 : decode cX11_init 184 = .ok (.dup, 1) := by decide +kernel
theorem dX11_init_185 : decode cX11_init 185 = .ok (.aload_n 0, 1) := by decide +kernel
theorem dX11_init_186 : decode cX11_init 186 = .ok (.getfield 19, 3) := by decide +kernel
theorem dX11_init_189 : decode cX11_init 189 = .ok (.aload_n 0, 1) := by decide +kernel
theorem dX11_init_190 : decode cX11_init 190 = .ok (.getfield 56, 3) := by decide +kernel
theorem dX11_init_193 : decode cX11_init 193 = .ok (.invokespecial 95, 3) := by decide +kernel
theorem dX11_init_196 : decode cX11_init 196 = .ok (.putfield 98, 3) := by decide +kernel
theorem dX11_init_199 : decode cX11_init 199 = .ok (.aload_n 0, 1) := by decide +kernel
theorem dX11_init_200 : decode cX11_init 200 = .ok (.new 102, 3) := by decide +kernel
theorem dX11_init_203 : decode cX11_init 203 = .ok (.dup, 1) := by decide +kernel
theorem dX11_init_204 : decode cX11_init 204 = .ok (.aload_n 0, 1) := by decide +kernel
theorem dX11_init_205 : decode cX11_init 205 = .ok (.getfield 19, 3) := by decide +kernel
theorem dX11_init_208 : decode cX11_init 208 = .ok (.aload_n 0, 1) := by decide +kernel
theorem dX11_init_209 : decode cX11_init 209 = .ok (.getfield 56, 3) := by decide +kernel
theorem dX11_init_212 : decode cX11_init 212 = .ok (.invokespecial 104, 3) := by decide +kernel
theorem dX11_init_215 : decode cX11_init 215 = .ok (.putfield 105, 3) := by decide +kernel
theorem dX11_init_218 : decode cX11_init 218 = .ok (.aload_n 0, 1) := by decide +kernel
theorem dX11_init_219 : decode cX11_init 219 = .ok (.iconst 2, 1) := by decide +kernel
theorem dX11_init_220 : decode cX11_init 220 = .ok (.putfield 109, 3) := by decide +kernel
theorem dX11_init_223 : decode cX11_init 223 = .ok (.return_, 1) := by decide +kernel
theorem dX11_feed_0 : decode cX11_feed 0 = .ok (.iload_n 1, 1) := by decide +kernel
theorem dX11_feed_1 : decode cX11_feed 1 = .ok (.invokestatic 113, 3) := by decide +kernel
theorem dX11_feed_4 : decode cX11_feed 4 = .ok (.iload_n 2, 1) := by decide +kernel
theorem dX11_feed_5 : decode cX11_feed 5 = .ok (.invokestatic 113, 3) := by decide +kernel
theorem dX11_feed_8 : decode cX11_feed 8 = .ok (.iadd, 1) := by decide +kernel
theorem dX11_feed_9 : decode cX11_feed 9 = .ok (.iload_n 3, 1) := by decide +kernel
theorem dX11_feed_10 : decode cX11_feed 10 = .ok (.invokestatic 113, 3) := by decide +kernel
theorem dX11_feed_13 : decode cX11_feed 13 = .ok (.iadd, 1) := by decide +kernel
theorem dX11_feed_14 : decode cX11_feed 14 = .ok (.iload 4, 2) := by decide +kernel
theorem dX11_feed_16 : decode cX11_feed 16 = .ok (.invokestatic 113, 3) := by decide +kernel
theorem dX11_feed_19 : decode cX11_feed 19 = .ok (.iadd, 1) := by decide +kernel
theorem dX11_feed_20 : decode cX11_feed 20 = .ok (.iload 5, 2) := by decide +kernel
theorem dX11_feed_22 : decode cX11_feed 22 = .ok (.invokestatic 113, 3) := by decide +kernel
theorem dX11_feed_25 : decode cX11_feed 25 = .ok (.iadd, 1) := by decide +kernel
theorem dX11_feed_26 : decode cX11_feed 26 = .ok (.istore 6, 2) := by decide +kernel
theorem dX11_feed_28 : decode cX11_feed 28 = .ok (.aload_n 0, 1) := by decide +kernel
theorem dX11_feed_29 : decode cX11_feed 29 = .ok (.getfield 10, 3) := by decide +kernel
theorem dX11_feed_32 : decode cX11_feed 32 = .ok (.getfield 117, 3) := by decide +kernel
theorem dX11_feed_35 : decode cX11_feed 35 = .ok (.iload 6, 2) := by decide +kernel
theorem dX11_feed_37 : decode cX11_feed 37 = .ok (.iadd, 1) := by decide +kernel
theorem dX11_feed_38 : decode cX11_feed 38 = .ok (.sipush 240, 3) := by decide +kernel
theorem dX11_feed_41 : decode cX11_feed 41 = .ok (.if_icmp .le 5, 3) := by decide +kernel
theorem dX11_feed_44 : decode cX11_feed 44 = .ok (.iconst (-1), 1) := by decide +kernel
theorem dX11_feed_45 : decode cX11_feed 45 = .ok (.ireturn, 1) := by decide +kernel
theorem dX11_feed_46 : decode cX11_feed 46 = .ok (.aload_n 0, 1) := by decide +kernel
theorem dX11_feed_47 : decode cX11_feed 47 = .ok (.getfield 10, 3) := by decide +kernel
theorem dX11_feed_50 : decode cX11_feed 50 = .ok (.iload_n 1, 1) := by decide +kernel
theorem dX11_feed_51 : decode cX11_feed 51 = .ok (.invokevirtual 120, 3) := by decide +kernel
theorem dX11_feed_54 : decode cX11_feed 54 = .ok (.aload_n 0, 1) := by decide +kernel
theorem dX11_feed_55 : decode cX11_feed 55 = .ok (.getfield 10, 3) := by decide +kernel
theorem dX11_feed_58 : decode cX11_feed 58 = .ok (.iload_n 2, 1) := by decide +kernel
theorem dX11_feed_59 : decode cX11_feed 59 = .ok (.invokevirtual 120, 3) := by decide +kernel
theorem dX11_feed_62 : decode cX11_feed 62 = .ok (.aload_n 0, 1) := by decide +kernel
theorem dX11_feed_63 : decode cX11_feed 63 = .ok (.getfield 10, 3) := by decide +kernel
theorem dX11_feed_66 : decode cX11_feed 66 = .ok (.iload_n 3, 1) := by decide +kernel
theorem dX11_feed_67 : decode cX11_feed 67 = .ok (.invokevirtual 120, 3) := by decide +kernel
theorem dX11_feed_70 : decode cX11_feed 70 = .ok (.aload_n 0, 1) := by decide +kernel
theorem dX11_feed_71 : decode cX11_feed 71 = .ok (.getfield 10, 3) := by decide +kernel
theorem dX11_feed_74 : decode cX11_feed 74 = .ok (.iload 4, 2) := by decide +kernel
theorem dX11_feed_76 : decode cX11_feed 76 = .ok (.invokevirtual 120, 3) := by decide +kernel
theorem dX11_feed_79 : decode cX11_feed 79 = .ok (.aload_n 0, 1) := by decide +kernel
theorem dX11_feed_80 : decode cX11_feed 80 = .ok (.getfield 10, 3) := by decide +kernel
theorem dX11_feed_83 : decode cX11_feed 83 = .ok (.iload 5, 2) := by decide +kernel
theorem dX11_feed_85 : decode cX11_feed 85 = .ok (.invokevirtual 120, 3) := by decide +kernel
theorem dX11_feed_88 : decode cX11_feed 88 = .ok (.aload_n 0, 1) := by decide +kernel
theorem dX11_feed_89 : decode cX11_feed 89 = .ok (.getfield 10, 3) := by decide +kernel
theorem dX11_feed_92 : decode cX11_feed 92 = .ok (.getfield 117, 3) := by decide +kernel
theorem dX11_feed_95 : decode cX11_feed 95 = .ok (.ireturn, 1) := by decide +kernel
theorem dX11_end_0 : decode cX11_end 0 = .ok (.iload_n 1, 1) := by decide +kernel
theorem dX11_end_1 : decode cX11_end 1 = .ok (.ifCond .lt 14, 3) := by decide +kernel
theorem dX11_end_4 : decode cX11_end 4 = .ok (.iload_n 1, 1) := by decide +kernel
theorem dX11_end_5 : decode cX11_end 5 = .ok (.aload_n 0, 1) := by decide +kernel
theorem dX11_end_6 : decode cX11_end 6 = .ok (.getfield 10, 3) := by decide +kernel
theorem dX11_end_9 : decode cX11_end 9 = .ok (.getfield 117, 3) := by decide +kernel
theorem dX11_end_12 : decode cX11_end 12 = .ok (.if_icmp .le 5, 3) := by decide +kernel
theorem dX11_end_15 : decode cX11_end 15 = .ok (.iconst 0, 1) := by decide +kernel
theorem dX11_end_16 : decode cX11_end 16 = .ok (.ireturn, 1) := by decide +kernel
theorem dX11_end_17 : decode cX11_end 17 = .ok (.aload_n 0, 1) := by decide +kernel
theorem dX11_end_18 : decode cX11_end 18 = .ok (.getfield 10, 3) := by decide +kernel
theorem dX11_end_21 : decode cX11_end 21 = .ok (.iload_n 1, 1) := by decide +kernel
theorem dX11_end_22 : decode cX11_end 22 = .ok (.putfield 117, 3) := by decide +kernel
theorem dX11_end_25 : decode cX11_end 25 = .ok (.iconst 1, 1) := by decide +kernel
theorem dX11_end_26 : decode cX11_end 26 = .ok (.ireturn, 1) := by decide +kernel
theorem dX11_fault_0 : decode cX11_fault 0 = .ok (.iload_n 1, 1) := by decide +kernel
theorem dX11_fault_1 : decode cX11_fault 1 = .ok (.tableswitch 51 0 2 #[27, 35, 43], 27) := by decide +kernel
theorem dX11_fault_28 : decode cX11_fault 28 = .ok (.aload_n 0, 1) := by decide +kernel
theorem dX11_fault_29 : decode cX11_fault 29 = .ok (.getfield 31, 3) := by decide +kernel
theorem dX11_fault_32 : decode cX11_fault 32 = .ok (.invokevirtual 124, 3) := by decide +kernel
theorem dX11_fault_35 : decode cX11_fault 35 = .ok (.ireturn, 1) := by decide +kernel
theorem dX11_fault_36 : decode cX11_fault 36 = .ok (.aload_n 0, 1) := by decide +kernel
theorem dX11_fault_37 : decode cX11_fault 37 = .ok (.getfield 40, 3) := by decide +kernel
theorem dX11_fault_40 : decode cX11_fault 40 = .ok (.invokevirtual 128, 3) := by decide +kernel
theorem dX11_fault_43 : decode cX11_fault 43 = .ok (.ireturn, 1) := by decide +kernel
theorem dX11_fault_44 : decode cX11_fault 44 = .ok (.aload_n 0, 1) := by decide +kernel
theorem dX11_fault_45 : decode cX11_fault 45 = .ok (.getfield 47, 3) := by decide +kernel
theorem dX11_fault_48 : decode cX11_fault 48 = .ok (.invokevirtual 129, 3) := by decide +kernel
theorem dX11_fault_51 : decode cX11_fault 51 = .ok (.ireturn, 1) := by decide +kernel
theorem dX11_fault_52 : decode cX11_fault 52 = .ok (.bipush (-2), 2) := by decide +kernel
theorem dX11_fault_54 : decode cX11_fault 54 = .ok (.ireturn, 1) := by decide +kernel
theorem dX11_text_0 : decode cX11_text 0 = .ok (.aload_n 0, 1) := by decide +kernel
theorem dX11_text_1 : decode cX11_text 1 = .ok (.iload_n 1, 1) := by decide +kernel
theorem dX11_text_2 : decode cX11_text 2 = .ok (.invokevirtual 130, 3) := by decide +kernel
theorem dX11_text_5 : decode cX11_text 5 = .ok (.iconst (-1), 1) := by decide +kernel
theorem dX11_text_6 : decode cX11_text 6 = .ok (.if_icmp .eq 5, 3) := by decide +kernel
theorem dX11_text_9 : decode cX11_text 9 = .ok (.iconst (-1), 1) := by decide +kernel
theorem dX11_text_10 : decode cX11_text 10 = .ok (.ireturn, 1) := by decide +kernel
theorem dX11_text_11 : decode cX11_text 11 = .ok (.iload_n 1, 1) := by decide +kernel
theorem dX11_text_12 : decode cX11_text 12 = .ok (.ifCond .ne 10, 3) := by decide +kernel
theorem dX11_text_15 : decode cX11_text 15 = .ok (.aload_n 0, 1) := by decide +kernel
theorem dX11_text_16 : decode cX11_text 16 = .ok (.invokevirtual 133, 3) := by decide +kernel
theorem dX11_text_19 : decode cX11_text 19 = .ok (.goto 25, 3) := by decide +kernel
theorem dX11_text_22 : decode cX11_text 22 = .ok (.iload_n 1, 1) := by decide +kernel
theorem dX11_text_23 : decode cX11_text 23 = .ok (.iconst 1, 1) := by decide +kernel
theorem dX11_text_24 : decode cX11_text 24 = .ok (.if_icmp .ne 13, 3) := by decide +kernel
theorem dX11_text_27 : decode cX11_text 27 = .ok (.aload_n 0, 1) := by decide +kernel
theorem dX11_text_28 : decode cX11_text 28 = .ok (.getfield 40, 3) := by decide +kernel
theorem dX11_text_31 : decode cX11_text 31 = .ok (.invokevirtual 136, 3) := by decide +kernel
theorem dX11_text_34 : decode cX11_text 34 = .ok (.goto 10, 3) := by decide +kernel
theorem dX11_text_37 : decode cX11_text 37 = .ok (.aload_n 0, 1) := by decide +kernel
theorem dX11_text_38 : decode cX11_text 38 = .ok (.getfield 47, 3) := by decide +kernel
theorem dX11_text_41 : decode cX11_text 41 = .ok (.invokevirtual 139, 3) := by decide +kernel
theorem dX11_text_44 : decode cX11_text 44 = .ok (.istore_n 2, 1) := by decide +kernel
theorem dX11_text_45 : decode cX11_text 45 = .ok (.iload_n 2, 1) := by decide +kernel
theorem dX11_text_46 : decode cX11_text 46 = .ok (.iconst (-1), 1) := by decide +kernel
theorem dX11_text_47 : decode cX11_text 47 = .ok (.if_icmp .eq 11, 3) := by decide +kernel
theorem dX11_text_50 : decode cX11_text 50 = .ok (.aload_n 0, 1) := by decide +kernel
theorem dX11_text_51 : decode cX11_text 51 = .ok (.getfield 10, 3) := by decide +kernel
theorem dX11_text_54 : decode cX11_text 54 = .ok (.iconst 0, 1) := by decide +kernel
theorem dX11_text_55 : decode cX11_text 55 = .ok (.putfield 117, 3) := by decide +kernel
theorem dX11_text_58 : decode cX11_text 58 = .ok (.iload_n 2, 1) := by decide +kernel
theorem dX11_text_59 : decode cX11_text 59 = .ok (.ireturn, 1) := by decide +kernel
theorem dX11_settle_0 : decode cX11_settle 0 = .ok (.aload_n 0, 1) := by decide +kernel
theorem dX11_settle_1 : decode cX11_settle 1 = .ok (.getfield 19, 3) := by decide +kernel
theorem dX11_settle_4 : decode cX11_settle 4 = .ok (.aload_n 0, 1) := by decide +kernel
theorem dX11_settle_5 : decode cX11_settle 5 = .ok (.getfield 23, 3) := by decide +kernel
theorem dX11_settle_8 : decode cX11_settle 8 = .ok (.invokevirtual 140, 3) := by decide +kernel
theorem dX11_settle_11 : decode cX11_settle 11 = .ok (.aload_n 0, 1) := by decide +kernel
theorem dX11_settle_12 : decode cX11_settle 12 = .ok (.getfield 56, 3) := by decide +kernel
theorem dX11_settle_15 : decode cX11_settle 15 = .ok (.invokevirtual 143, 3) := by decide +kernel
theorem dX11_settle_18 : decode cX11_settle 18 = .ok (.aload_n 0, 1) := by decide +kernel
theorem dX11_settle_19 : decode cX11_settle 19 = .ok (.getfield 66, 3) := by decide +kernel
theorem dX11_settle_22 : decode cX11_settle 22 = .ok (.invokevirtual 146, 3) := by decide +kernel
theorem dX11_settle_25 : decode cX11_settle 25 = .ok (.aload_n 0, 1) := by decide +kernel
theorem dX11_settle_26 : decode cX11_settle 26 = .ok (.getfield 89, 3) := by decide +kernel
theorem dX11_settle_29 : decode cX11_settle 29 = .ok (.invokevirtual 149, 3) := by decide +kernel
theorem dX11_settle_32 : decode cX11_settle 32 = .ok (.aload_n 0, 1) := by decide +kernel
theorem dX11_settle_33 : decode cX11_settle 33 = .ok (.iconst 0, 1) := by decide +kernel
theorem dX11_settle_34 : decode cX11_settle 34 = .ok (.putfield 150, 3) := by decide +kernel
theorem dX11_settle_37 : decode cX11_settle 37 = .ok (.aload_n 0, 1) := by decide +kernel
theorem dX11_settle_38 : decode cX11_settle 38 = .ok (.getfield 19, 3) := by decide +kernel
theorem dX11_settle_41 : decode cX11_settle 41 = .ok (.getfield 154, 3) := by decide +kernel
theorem dX11_settle_44 : decode cX11_settle 44 = .ok (.ireturn, 1) := by decide +kernel
theorem dX11_rule_0 : decode cX11_rule 0 = .ok (.aload_n 0, 1) := by decide +kernel
theorem dX11_rule_1 : decode cX11_rule 1 = .ok (.getfield 19, 3) := by decide +kernel
theorem dX11_rule_4 : decode cX11_rule 4 = .ok (.invokevirtual 157, 3) := by decide +kernel
theorem dX11_rule_7 : decode cX11_rule 7 = .ok (.ifCond .eq 24, 3) := by decide +kernel
theorem dX11_rule_10 : decode cX11_rule 10 = .ok (.iload_n 1, 1) := by decide +kernel
theorem dX11_rule_11 : decode cX11_rule 11 = .ok (.ifCond .lt 20, 3) := by decide +kernel
theorem dX11_rule_14 : decode cX11_rule 14 = .ok (.iload_n 1, 1) := by decide +kernel
theorem dX11_rule_15 : decode cX11_rule 15 = .ok (.iconst 2, 1) := by decide +kernel
theorem dX11_rule_16 : decode cX11_rule 16 = .ok (.if_icmp .gt 15, 3) := by decide +kernel
theorem dX11_rule_19 : decode cX11_rule 19 = .ok (.aload_n 0, 1) := by decide +kernel
theorem dX11_rule_20 : decode cX11_rule 20 = .ok (.getfield 19, 3) := by decide +kernel
theorem dX11_rule_23 : decode cX11_rule 23 = .ok (.getfield 161, 3) := by decide +kernel
theorem dX11_rule_26 : decode cX11_rule 26 = .ok (.iload_n 1, 1) := by decide +kernel
theorem dX11_rule_27 : decode cX11_rule 27 = .ok (.iaload, 1) := by decide +kernel
theorem dX11_rule_28 : decode cX11_rule 28 = .ok (.goto 4, 3) := by decide +kernel
theorem dX11_rule_31 : decode cX11_rule 31 = .ok (.iconst (-1), 1) := by decide +kernel
theorem dX11_rule_32 : decode cX11_rule 32 = .ok (.ireturn, 1) := by decide +kernel
theorem dX11_spot_0 : decode cX11_spot 0 = .ok (.aload_n 0, 1) := by decide +kernel
theorem dX11_spot_1 : decode cX11_spot 1 = .ok (.getfield 19, 3) := by decide +kernel
theorem dX11_spot_4 : decode cX11_spot 4 = .ok (.iload_n 1, 1) := by decide +kernel
theorem dX11_spot_5 : decode cX11_spot 5 = .ok (.invokevirtual 164, 3) := by decide +kernel
theorem dX11_spot_8 : decode cX11_spot 8 = .ok (.ifCond .eq 13, 3) := by decide +kernel
theorem dX11_spot_11 : decode cX11_spot 11 = .ok (.iload_n 2, 1) := by decide +kernel
theorem dX11_spot_12 : decode cX11_spot 12 = .ok (.ifCond .lt 9, 3) := by decide +kernel
theorem dX11_spot_15 : decode cX11_spot 15 = .ok (.iload_n 2, 1) := by decide +kernel
theorem dX11_spot_16 : decode cX11_spot 16 = .ok (.bipush 6, 2) := by decide +kernel
theorem dX11_spot_18 : decode cX11_spot 18 = .ok (.if_icmp .le 11, 3) := by decide +kernel
theorem dX11_spot_21 : decode cX11_spot 21 = .ok (.new 168, 3) := by decide +kernel
theorem dX11_spot_24 : decode cX11_spot 24 = .ok (.dup, 1) := by decide +kernel
theorem dX11_spot_25 : decode cX11_spot 25 = .ok (.invokespecial 170, 3) := by decide +kernel
theorem dX11_spot_28 : decode cX11_spot 28 = .ok (.athrow, 1) := by decide +kernel
theorem dX11_spot_29 : decode cX11_spot 29 = .ok (.iload_n 2, 1) := by decide +kernel
theorem dX11_spot_30 : decode cX11_spot 30 = .ok (.tableswitch 53 4 6 #[26, 35, 44], 26) := by decide +kernel
theorem dX11_spot_56 : decode cX11_spot 56 = .ok (.aload_n 0, 1) := by decide +kernel
theorem dX11_spot_57 : decode cX11_spot 57 = .ok (.getfield 56, 3) := by decide +kernel
theorem dX11_spot_60 : decode cX11_spot 60 = .ok (.iload_n 1, 1) := by decide +kernel
theorem dX11_spot_61 : decode cX11_spot 61 = .ok (.invokevirtual 171, 3) := by decide +kernel
theorem dX11_spot_64 : decode cX11_spot 64 = .ok (.ireturn, 1) := by decide +kernel
theorem dX11_spot_65 : decode cX11_spot 65 = .ok (.aload_n 0, 1) := by decide +kernel
theorem dX11_spot_66 : decode cX11_spot 66 = .ok (.getfield 56, 3) := by decide +kernel
theorem dX11_spot_69 : decode cX11_spot 69 = .ok (.iload_n 1, 1) := by decide +kernel
theorem dX11_spot_70 : decode cX11_spot 70 = .ok (.invokevirtual 174, 3) := by decide +kernel
theorem dX11_spot_73 : decode cX11_spot 73 = .ok (.ireturn, 1) := by decide +kernel
theorem dX11_spot_74 : decode cX11_spot 74 = .ok (.aload_n 0, 1) := by decide +kernel
theorem dX11_spot_75 : decode cX11_spot 75 = .ok (.getfield 56, 3) := by decide +kernel
theorem dX11_spot_78 : decode cX11_spot 78 = .ok (.iload_n 1, 1) := by decide +kernel
theorem dX11_spot_79 : decode cX11_spot 79 = .ok (.invokevirtual 177, 3) := by decide +kernel
theorem dX11_spot_82 : decode cX11_spot 82 = .ok (.ireturn, 1) := by decide +kernel
theorem dX11_spot_83 : decode cX11_spot 83 = .ok (.aload_n 0, 1) := by decide +kernel
theorem dX11_spot_84 : decode cX11_spot 84 = .ok (.getfield 19, 3) := by decide +kernel
theorem dX11_spot_87 : decode cX11_spot 87 = .ok (.iload_n 1, 1) := by decide +kernel
theorem dX11_spot_88 : decode cX11_spot 88 = .ok (.iload_n 2, 1) := by decide +kernel
theorem dX11_spot_89 : decode cX11_spot 89 = .ok (.invokevirtual 180, 3) := by decide +kernel
theorem dX11_spot_92 : decode cX11_spot 92 = .ok (.ireturn, 1) := by decide +kernel
theorem dX11_law_0 : decode cX11_law 0 = .ok (.iload_n 1, 1) := by decide +kernel
theorem dX11_law_1 : decode cX11_law 1 = .ok (.iconst (-1), 1) := by decide +kernel
theorem dX11_law_2 : decode cX11_law 2 = .ok (.if_icmp .eq 20, 3) := by decide +kernel
theorem dX11_law_5 : decode cX11_law 5 = .ok (.iload_n 1, 1) := by decide +kernel
theorem dX11_law_6 : decode cX11_law 6 = .ok (.ifCond .lt 14, 3) := by decide +kernel
theorem dX11_law_9 : decode cX11_law 9 = .ok (.iload_n 1, 1) := by decide +kernel
theorem dX11_law_10 : decode cX11_law 10 = .ok (.aload_n 0, 1) := by decide +kernel
theorem dX11_law_11 : decode cX11_law 11 = .ok (.getfield 40, 3) := by decide +kernel
theorem dX11_law_14 : decode cX11_law 14 = .ok (.getfield 184, 3) := by decide +kernel
theorem dX11_law_17 : decode cX11_law 17 = .ok (.if_icmp .lt 5, 3) := by decide +kernel
theorem dX11_law_20 : decode cX11_law 20 = .ok (.iconst 0, 1) := by decide +kernel
theorem dX11_law_21 : decode cX11_law 21 = .ok (.ireturn, 1) := by decide +kernel
theorem dX11_law_22 : decode cX11_law 22 = .ok (.aload_n 0, 1) := by decide +kernel
theorem dX11_law_23 : decode cX11_law 23 = .ok (.getfield 40, 3) := by decide +kernel
theorem dX11_law_26 : decode cX11_law 26 = .ok (.iload_n 1, 1) := by decide +kernel
theorem dX11_law_27 : decode cX11_law 27 = .ok (.putfield 187, 3) := by decide +kernel
theorem dX11_law_30 : decode cX11_law 30 = .ok (.iconst 1, 1) := by decide +kernel
theorem dX11_law_31 : decode cX11_law 31 = .ok (.ireturn, 1) := by decide +kernel
theorem dX11_gout_0 : decode cX11_gout 0 = .ok (.iload_n 1, 1) := by decide +kernel
theorem dX11_gout_1 : decode cX11_gout 1 = .ok (.ifCond .lt 17, 3) := by decide +kernel
theorem dX11_gout_4 : decode cX11_gout 4 = .ok (.iload_n 1, 1) := by decide +kernel
theorem dX11_gout_5 : decode cX11_gout 5 = .ok (.bipush 9, 2) := by decide +kernel
theorem dX11_gout_7 : decode cX11_gout 7 = .ok (.if_icmp .gt 11, 3) := by decide +kernel
theorem dX11_gout_10 : decode cX11_gout 10 = .ok (.iload_n 1, 1) := by decide +kernel
theorem dX11_gout_11 : decode cX11_gout 11 = .ok (.aload_n 0, 1) := by decide +kernel
theorem dX11_gout_12 : decode cX11_gout 12 = .ok (.getfield 109, 3) := by decide +kernel
theorem dX11_gout_15 : decode cX11_gout 15 = .ok (.if_icmp .ne 5, 3) := by decide +kernel
theorem dX11_gout_18 : decode cX11_gout 18 = .ok (.iconst 0, 1) := by decide +kernel
theorem dX11_gout_19 : decode cX11_gout 19 = .ok (.ireturn, 1) := by decide +kernel
theorem dX11_gout_20 : decode cX11_gout 20 = .ok (.aload_n 0, 1) := by decide +kernel
theorem dX11_gout_21 : decode cX11_gout 21 = .ok (.iload_n 1, 1) := by decide +kernel
theorem dX11_gout_22 : decode cX11_gout 22 = .ok (.putfield 109, 3) := by decide +kernel
theorem dX11_gout_25 : decode cX11_gout 25 = .ok (.iconst 1, 1) := by decide +kernel
theorem dX11_gout_26 : decode cX11_gout 26 = .ok (.ireturn, 1) := by decide +kernel
theorem dX11_steps_0 : decode cX11_steps 0 = .ok (.aload_n 0, 1) := by decide +kernel
theorem dX11_steps_1 : decode cX11_steps 1 = .ok (.getfield 19, 3) := by decide +kernel
theorem dX11_steps_4 : decode cX11_steps 4 = .ok (.iload_n 2, 1) := by decide +kernel
theorem dX11_steps_5 : decode cX11_steps 5 = .ok (.invokevirtual 164, 3) := by decide +kernel
theorem dX11_steps_8 : decode cX11_steps 8 = .ok (.ifCond .eq 19, 3) := by decide +kernel
theorem dX11_steps_11 : decode cX11_steps 11 = .ok (.iload_n 1, 1) := by decide +kernel
theorem dX11_steps_12 : decode cX11_steps 12 = .ok (.iconst (-1), 1) := by decide +kernel
theorem dX11_steps_13 : decode cX11_steps 13 = .ok (.if_icmp .eq 16, 3) := by decide +kernel
theorem dX11_steps_16 : decode cX11_steps 16 = .ok (.aload_n 0, 1) := by decide +kernel
theorem dX11_steps_17 : decode cX11_steps 17 = .ok (.getfield 19, 3) := by decide +kernel
theorem dX11_steps_20 : decode cX11_steps 20 = .ok (.iload_n 1, 1) := by decide +kernel
theorem dX11_steps_21 : decode cX11_steps 21 = .ok (.invokevirtual 164, 3) := by decide +kernel
theorem dX11_steps_24 : decode cX11_steps 24 = .ok (.ifCond .ne 5, 3) := by decide +kernel
theorem dX11_steps_27 : decode cX11_steps 27 = .ok (.iconst (-1), 1) := by decide +kernel
theorem dX11_steps_28 : decode cX11_steps 28 = .ok (.ireturn, 1) := by decide +kernel
theorem dX11_steps_29 : decode cX11_steps 29 = .ok (.aload_n 0, 1) := by decide +kernel
theorem dX11_steps_30 : decode cX11_steps 30 = .ok (.getfield 19, 3) := by decide +kernel
theorem dX11_steps_33 : decode cX11_steps 33 = .ok (.iload_n 1, 1) := by decide +kernel
theorem dX11_steps_34 : decode cX11_steps 34 = .ok (.iconst (-1), 1) := by decide +kernel
theorem dX11_steps_35 : decode cX11_steps 35 = .ok (.if_icmp .ne 13, 3) := by decide +kernel
theorem dX11_steps_38 : decode cX11_steps 38 = .ok (.aload_n 0, 1) := by decide +kernel
theorem dX11_steps_39 : decode cX11_steps 39 = .ok (.getfield 56, 3) := by decide +kernel
theorem dX11_steps_42 : decode cX11_steps 42 = .ok (.invokevirtual 190, 3) := by decide +kernel
theorem dX11_steps_45 : decode cX11_steps 45 = .ok (.goto 4, 3) := by decide +kernel
theorem dX11_steps_48 : decode cX11_steps 48 = .ok (.iload_n 1, 1) := by decide +kernel
theorem dX11_steps_49 : decode cX11_steps 49 = .ok (.iload_n 2, 1) := by decide +kernel
theorem dX11_steps_50 : decode cX11_steps 50 = .ok (.invokevirtual 193, 3) := by decide +kernel
theorem dX11_steps_53 : decode cX11_steps 53 = .ok (.ireturn, 1) := by decide +kernel
theorem dX11_walk_0 : decode cX11_walk 0 = .ok (.aload_n 0, 1) := by decide +kernel
theorem dX11_walk_1 : decode cX11_walk 1 = .ok (.iconst 0, 1) := by decide +kernel
theorem dX11_walk_2 : decode cX11_walk 2 = .ok (.iload_n 1, 1) := by decide +kernel
theorem dX11_walk_3 : decode cX11_walk 3 = .ok (.invokevirtual 196, 3) := by decide +kernel
theorem dX11_walk_6 : decode cX11_walk 6 = .ok (.ireturn, 1) := by decide +kernel
theorem dX11_ledge_0 : decode cX11_ledge 0 = .ok (.aload_n 0, 1) := by decide +kernel
theorem dX11_ledge_1 : decode cX11_ledge 1 = .ok (.iconst 1, 1) := by decide +kernel
theorem dX11_ledge_2 : decode cX11_ledge 2 = .ok (.iconst (-1), 1) := by decide +kernel
theorem dX11_ledge_3 : decode cX11_ledge 3 = .ok (.invokevirtual 196, 3) := by decide +kernel
theorem dX11_ledge_6 : decode cX11_ledge 6 = .ok (.ireturn, 1) := by decide +kernel
theorem dX11_restore_0 : decode cX11_restore 0 = .ok (.aload_n 0, 1) := by decide +kernel
theorem dX11_restore_1 : decode cX11_restore 1 = .ok (.iconst 2, 1) := by decide +kernel
theorem dX11_restore_2 : decode cX11_restore 2 = .ok (.iload_n 1, 1) := by decide +kernel
theorem dX11_restore_3 : decode cX11_restore 3 = .ok (.invokevirtual 196, 3) := by decide +kernel
theorem dX11_restore_6 : decode cX11_restore 6 = .ok (.ireturn, 1) := by decide +kernel
theorem dX11_patience_0 : decode cX11_patience 0 = .ok (.aload_n 0, 1) := by decide +kernel
theorem dX11_patience_1 : decode cX11_patience 1 = .ok (.getfield 19, 3) := by decide +kernel
theorem dX11_patience_4 : decode cX11_patience 4 = .ok (.iload_n 1, 1) := by decide +kernel
theorem dX11_patience_5 : decode cX11_patience 5 = .ok (.invokevirtual 164, 3) := by decide +kernel
theorem dX11_patience_8 : decode cX11_patience 8 = .ok (.ifCond .eq 25, 3) := by decide +kernel
theorem dX11_patience_11 : decode cX11_patience 11 = .ok (.iload_n 2, 1) := by decide +kernel
theorem dX11_patience_12 : decode cX11_patience 12 = .ok (.ifCond .lt 21, 3) := by decide +kernel
theorem dX11_patience_15 : decode cX11_patience 15 = .ok (.iload_n 2, 1) := by decide +kernel
theorem dX11_patience_16 : decode cX11_patience 16 = .ok (.bipush 30, 2) := by decide +kernel
theorem dX11_patience_18 : decode cX11_patience 18 = .ok (.if_icmp .gt 15, 3) := by decide +kernel
theorem dX11_patience_21 : decode cX11_patience 21 = .ok (.iload_n 2, 1) := by decide +kernel
theorem dX11_patience_22 : decode cX11_patience 22 = .ok (.aload_n 0, 1) := by decide +kernel
theorem dX11_patience_23 : decode cX11_patience 23 = .ok (.getfield 56, 3) := by decide +kernel
theorem dX11_patience_26 : decode cX11_patience 26 = .ok (.iload_n 1, 1) := by decide +kernel
theorem dX11_patience_27 : decode cX11_patience 27 = .ok (.invokevirtual 171, 3) := by decide +kernel
theorem dX11_patience_30 : decode cX11_patience 30 = .ok (.if_icmp .ne 5, 3) := by decide +kernel
theorem dX11_patience_33 : decode cX11_patience 33 = .ok (.iconst (-1), 1) := by decide +kernel
theorem dX11_patience_34 : decode cX11_patience 34 = .ok (.ireturn, 1) := by decide +kernel
theorem dX11_patience_35 : decode cX11_patience 35 = .ok (.aload_n 0, 1) := by decide +kernel
theorem dX11_patience_36 : decode cX11_patience 36 = .ok (.getfield 56, 3) := by decide +kernel
theorem dX11_patience_39 : decode cX11_patience 39 = .ok (.iload_n 1, 1) := by decide +kernel
theorem dX11_patience_40 : decode cX11_patience 40 = .ok (.invokevirtual 171, 3) := by decide +kernel
theorem dX11_patience_43 : decode cX11_patience 43 = .ok (.istore_n 3, 1) := by decide +kernel
theorem dX11_patience_44 : decode cX11_patience 44 = .ok (.aload_n 0, 1) := by decide +kernel
theorem dX11_patience_45 : decode cX11_patience 45 = .ok (.getfield 66, 3) := by decide +kernel
theorem dX11_patience_48 : decode cX11_patience 48 = .ok (.aload_n 0, 1) := by decide +kernel
theorem dX11_patience_49 : decode cX11_patience 49 = .ok (.getfield 56, 3) := by decide +kernel
theorem dX11_patience_52 : decode cX11_patience 52 = .ok (.invokevirtual 199, 3) := by decide +kernel
theorem dX11_patience_55 : decode cX11_patience 55 = .ok (.aload_n 0, 1) := by decide +kernel
theorem dX11_patience_56 : decode cX11_patience 56 = .ok (.getfield 56, 3) := by decide +kernel
theorem dX11_patience_59 : decode cX11_patience 59 = .ok (.iload_n 1, 1) := by decide +kernel
theorem dX11_patience_60 : decode cX11_patience 60 = .ok (.iload_n 2, 1) := by decide +kernel
theorem dX11_patience_61 : decode cX11_patience 61 = .ok (.invokevirtual 203, 3) := by decide +kernel
theorem dX11_patience_64 : decode cX11_patience 64 = .ok (.iload_n 3, 1) := by decide +kernel
theorem dX11_patience_65 : decode cX11_patience 65 = .ok (.ireturn, 1) := by decide +kernel
theorem dX11_day_0 : decode cX11_day 0 = .ok (.aload_n 0, 1) := by decide +kernel
theorem dX11_day_1 : decode cX11_day 1 = .ok (.iconst 3, 1) := by decide +kernel
theorem dX11_day_2 : decode cX11_day 2 = .ok (.iconst (-1), 1) := by decide +kernel
theorem dX11_day_3 : decode cX11_day 3 = .ok (.invokevirtual 196, 3) := by decide +kernel
theorem dX11_day_6 : decode cX11_day 6 = .ok (.ireturn, 1) := by decide +kernel
theorem dX11_doAsAct_0 : decode cX11_doAsAct 0 = .ok (.aload_n 0, 1) := by decide +kernel
theorem dX11_doAsAct_1 : decode cX11_doAsAct 1 = .ok (.getfield 56, 3) := by decide +kernel
theorem dX11_doAsAct_4 : decode cX11_doAsAct 4 = .ok (.iload_n 1, 1) := by decide +kernel
theorem dX11_doAsAct_5 : decode cX11_doAsAct 5 = .ok (.iload_n 2, 1) := by decide +kernel
theorem dX11_doAsAct_6 : decode cX11_doAsAct 6 = .ok (.invokevirtual 207, 3) := by decide +kernel
theorem dX11_doAsAct_9 : decode cX11_doAsAct 9 = .ok (.ifCond .ne 5, 3) := by decide +kernel
theorem dX11_doAsAct_12 : decode cX11_doAsAct 12 = .ok (.iconst (-1), 1) := by decide +kernel
theorem dX11_doAsAct_13 : decode cX11_doAsAct 13 = .ok (.ireturn, 1) := by decide +kernel
theorem dX11_doAsAct_14 : decode cX11_doAsAct 14 = .ok (.aload_n 0, 1) := by decide +kernel
theorem dX11_doAsAct_15 : decode cX11_doAsAct 15 = .ok (.getfield 66, 3) := by decide +kernel
theorem dX11_doAsAct_18 : decode cX11_doAsAct 18 = .ok (.aload_n 0, 1) := by decide +kernel
theorem dX11_doAsAct_19 : decode cX11_doAsAct 19 = .ok (.getfield 56, 3) := by decide +kernel
theorem dX11_doAsAct_22 : decode cX11_doAsAct 22 = .ok (.invokevirtual 199, 3) := by decide +kernel
theorem dX11_doAsAct_25 : decode cX11_doAsAct 25 = .ok (.iload_n 1, 1) := by decide +kernel
theorem dX11_doAsAct_26 : decode cX11_doAsAct 26 = .ok (.iconst 3, 1) := by decide +kernel
theorem dX11_doAsAct_27 : decode cX11_doAsAct 27 = .ok (.if_icmp .ne 14, 3) := by decide +kernel
theorem dX11_doAsAct_30 : decode cX11_doAsAct 30 = .ok (.aload_n 0, 1) := by decide +kernel
theorem dX11_doAsAct_31 : decode cX11_doAsAct 31 = .ok (.getfield 73, 3) := by decide +kernel
theorem dX11_doAsAct_34 : decode cX11_doAsAct 34 = .ok (.aload_n 0, 1) := by decide +kernel
theorem dX11_doAsAct_35 : decode cX11_doAsAct 35 = .ok (.getfield 56, 3) := by decide +kernel
theorem dX11_doAsAct_38 : decode cX11_doAsAct 38 = .ok (.invokevirtual 211, 3) := by decide +kernel
theorem dX11_doAsAct_41 : decode cX11_doAsAct 41 = .ok (.aload_n 0, 1) := by decide +kernel
theorem dX11_doAsAct_42 : decode cX11_doAsAct 42 = .ok (.getfield 56, 3) := by decide +kernel
theorem dX11_doAsAct_45 : decode cX11_doAsAct 45 = .ok (.iload_n 1, 1) := by decide +kernel
theorem dX11_doAsAct_46 : decode cX11_doAsAct 46 = .ok (.iload_n 2, 1) := by decide +kernel
theorem dX11_doAsAct_47 : decode cX11_doAsAct 47 = .ok (.invokevirtual 214, 3) := by decide +kernel
theorem dX11_doAsAct_50 : decode cX11_doAsAct 50 = .ok (.ireturn, 1) := by decide +kernel
theorem dX11_years_0 : decode cX11_years 0 = .ok (.aload_n 0, 1) := by decide +kernel
theorem dX11_years_1 : decode cX11_years 1 = .ok (.getfield 19, 3) := by decide +kernel
theorem dX11_years_4 : decode cX11_years 4 = .ok (.invokevirtual 157, 3) := by decide +kernel
theorem dX11_years_7 : decode cX11_years 7 = .ok (.ifCond .eq 14, 3) := by decide +kernel
theorem dX11_years_10 : decode cX11_years 10 = .ok (.iload_n 1, 1) := by decide +kernel
theorem dX11_years_11 : decode cX11_years 11 = .ok (.iconst 1, 1) := by decide +kernel
theorem dX11_years_12 : decode cX11_years 12 = .ok (.if_icmp .lt 9, 3) := by decide +kernel
theorem dX11_years_15 : decode cX11_years 15 = .ok (.iload_n 1, 1) := by decide +kernel
theorem dX11_years_16 : decode cX11_years 16 = .ok (.bipush 60, 2) := by decide +kernel
theorem dX11_years_18 : decode cX11_years 18 = .ok (.if_icmp .le 5, 3) := by decide +kernel
theorem dX11_years_21 : decode cX11_years 21 = .ok (.iconst (-1), 1) := by decide +kernel
theorem dX11_years_22 : decode cX11_years 22 = .ok (.ireturn, 1) := by decide +kernel
theorem dX11_years_23 : decode cX11_years 23 = .ok (.lload_n 2, 1) := by decide +kernel
theorem dX11_years_24 : decode cX11_years 24 = .ok (.lstore 4, 2) := by decide +kernel
theorem dX11_years_26 : decode cX11_years 26 = .ok (.iconst 0, 1) := by decide +kernel
theorem dX11_years_27 : decode cX11_years 27 = .ok (.istore 6, 2) := by decide +kernel
theorem dX11_years_29 : decode cX11_years 29 = .ok (.iconst 0, 1) := by decide +kernel
theorem dX11_years_30 : decode cX11_years 30 = .ok (.istore 7, 2) := by decide +kernel
theorem dX11_years_32 : decode cX11_years 32 = .ok (.iload 7, 2) := by decide +kernel
theorem dX11_years_34 : decode cX11_years 34 = .ok (.iload_n 1, 1) := by decide +kernel
theorem dX11_years_35 : decode cX11_years 35 = .ok (.if_icmp .ge 76, 3) := by decide +kernel
theorem dX11_years_38 : decode cX11_years 38 = .ok (.aload_n 0, 1) := by decide +kernel
theorem dX11_years_39 : decode cX11_years 39 = .ok (.getfield 66, 3) := by decide +kernel
theorem dX11_years_42 : decode cX11_years 42 = .ok (.aload_n 0, 1) := by decide +kernel
theorem dX11_years_43 : decode cX11_years 43 = .ok (.getfield 56, 3) := by decide +kernel
theorem dX11_years_46 : decode cX11_years 46 = .ok (.invokevirtual 199, 3) := by decide +kernel
theorem dX11_years_49 : decode cX11_years 49 = .ok (.lload 4, 2) := by decide +kernel
theorem dX11_years_51 : decode cX11_years 51 = .ok (.invokestatic 217, 3) := by decide +kernel
theorem dX11_years_54 : decode cX11_years 54 = .ok (.lstore 4, 2) := by decide +kernel
theorem dX11_years_56 : decode cX11_years 56 = .ok (.lload 4, 2) := by decide +kernel
theorem dX11_years_58 : decode cX11_years 58 = .ok (.bipush 10, 2) := by decide +kernel
theorem dX11_years_60 : decode cX11_years 60 = .ok (.invokestatic 221, 3) := by decide +kernel
theorem dX11_years_63 : decode cX11_years 63 = .ok (.aload_n 0, 1) := by decide +kernel
theorem dX11_years_64 : decode cX11_years 64 = .ok (.getfield 109, 3) := by decide +kernel
theorem dX11_years_67 : decode cX11_years 67 = .ok (.if_icmp .ge 10, 3) := by decide +kernel
theorem dX11_years_70 : decode cX11_years 70 = .ok (.aload_n 0, 1) := by decide +kernel
theorem dX11_years_71 : decode cX11_years 71 = .ok (.invokevirtual 225, 3) := by decide +kernel
theorem dX11_years_74 : decode cX11_years 74 = .ok (.goto 31, 3) := by decide +kernel
theorem dX11_years_77 : decode cX11_years 77 = .ok (.lload 4, 2) := by decide +kernel
theorem dX11_years_79 : decode cX11_years 79 = .ok (.invokestatic 217, 3) := by decide +kernel
theorem dX11_years_82 : decode cX11_years 82 = .ok (.lstore 4, 2) := by decide +kernel
theorem dX11_years_84 : decode cX11_years 84 = .ok (.iload 6, 2) := by decide +kernel
theorem dX11_years_86 : decode cX11_years 86 = .ok (.aload_n 0, 1) := by decide +kernel
theorem dX11_years_87 : decode cX11_years 87 = .ok (.lload 4, 2) := by decide +kernel
theorem dX11_years_89 : decode cX11_years 89 = .ok (.aload_n 0, 1) := by decide +kernel
theorem dX11_years_90 : decode cX11_years 90 = .ok (.getfield 19, 3) := by decide +kernel
theorem dX11_years_93 : decode cX11_years 93 = .ok (.getfield 154, 3) := by decide +kernel
theorem dX11_years_96 : decode cX11_years 96 = .ok (.invokestatic 221, 3) := by decide +kernel
theorem dX11_years_99 : decode cX11_years 99 = .ok (.invokevirtual 228, 3) := by decide +kernel
theorem dX11_years_102 : decode cX11_years 102 = .ok (.iadd, 1) := by decide +kernel
theorem dX11_years_103 : decode cX11_years 103 = .ok (.istore 6, 2) := by decide +kernel
theorem dX11_years_105 : decode cX11_years 105 = .ok (.iinc 7 1, 3) := by decide +kernel
theorem dX11_years_108 : decode cX11_years 108 = .ok (.goto (-76), 3) := by decide +kernel
theorem dX11_years_111 : decode cX11_years 111 = .ok (.iload 6, 2) := by decide +kernel
theorem dX11_years_113 : decode cX11_years 113 = .ok (.ireturn, 1) := by decide +kernel
theorem dX11_letDayGoBy_0 : decode cX11_letDayGoBy 0 = .ok (.aload_n 0, 1) := by decide +kernel
theorem dX11_letDayGoBy_1 : decode cX11_letDayGoBy 1 = .ok (.getfield 56, 3) := by decide +kernel
theorem dX11_letDayGoBy_4 : decode cX11_letDayGoBy 4 = .ok (.iconst 3, 1) := by decide +kernel
theorem dX11_letDayGoBy_5 : decode cX11_letDayGoBy 5 = .ok (.iconst (-1), 1) := by decide +kernel
theorem dX11_letDayGoBy_6 : decode cX11_letDayGoBy 6 = .ok (.invokevirtual 207, 3) := by decide +kernel
theorem dX11_letDayGoBy_9 : decode cX11_letDayGoBy 9 = .ok (.ifCond .eq 24, 3) := by decide +kernel
theorem dX11_letDayGoBy_12 : decode cX11_letDayGoBy 12 = .ok (.aload_n 0, 1) := by decide +kernel
theorem dX11_letDayGoBy_13 : decode cX11_letDayGoBy 13 = .ok (.getfield 73, 3) := by decide +kernel
theorem dX11_letDayGoBy_16 : decode cX11_letDayGoBy 16 = .ok (.aload_n 0, 1) := by decide +kernel
theorem dX11_letDayGoBy_17 : decode cX11_letDayGoBy 17 = .ok (.getfield 56, 3) := by decide +kernel
theorem dX11_letDayGoBy_20 : decode cX11_letDayGoBy 20 = .ok (.invokevirtual 211, 3) := by decide +kernel
theorem dX11_letDayGoBy_23 : decode cX11_letDayGoBy 23 = .ok (.aload_n 0, 1) := by decide +kernel
theorem dX11_letDayGoBy_24 : decode cX11_letDayGoBy 24 = .ok (.getfield 56, 3) := by decide +kernel
theorem dX11_letDayGoBy_27 : decode cX11_letDayGoBy 27 = .ok (.iconst 3, 1) := by decide +kernel
theorem dX11_letDayGoBy_28 : decode cX11_letDayGoBy 28 = .ok (.iconst (-1), 1) := by decide +kernel
theorem dX11_letDayGoBy_29 : decode cX11_letDayGoBy 29 = .ok (.invokevirtual 214, 3) := by decide +kernel
theorem dX11_letDayGoBy_32 : decode cX11_letDayGoBy 32 = .ok (.pop, 1) := by decide +kernel
theorem dX11_letDayGoBy_33 : decode cX11_letDayGoBy 33 = .ok (.return_, 1) := by decide +kernel
theorem dX11_walkOrRead_0 : decode cX11_walkOrRead 0 = .ok (.aload_n 0, 1) := by decide +kernel
theorem dX11_walkOrRead_1 : decode cX11_walkOrRead 1 = .ok (.getfield 56, 3) := by decide +kernel
theorem dX11_walkOrRead_4 : decode cX11_walkOrRead 4 = .ok (.iconst 0, 1) := by decide +kernel
theorem dX11_walkOrRead_5 : decode cX11_walkOrRead 5 = .ok (.iload_n 1, 1) := by decide +kernel
theorem dX11_walkOrRead_6 : decode cX11_walkOrRead 6 = .ok (.invokevirtual 207, 3) := by decide +kernel
theorem dX11_walkOrRead_9 : decode cX11_walkOrRead 9 = .ok (.ifCond .eq 15, 3) := by decide +kernel
theorem dX11_walkOrRead_12 : decode cX11_walkOrRead 12 = .ok (.aload_n 0, 1) := by decide +kernel
theorem dX11_walkOrRead_13 : decode cX11_walkOrRead 13 = .ok (.getfield 56, 3) := by decide +kernel
theorem dX11_walkOrRead_16 : decode cX11_walkOrRead 16 = .ok (.iconst 0, 1) := by decide +kernel
theorem dX11_walkOrRead_17 : decode cX11_walkOrRead 17 = .ok (.iload_n 1, 1) := by decide +kernel
theorem dX11_walkOrRead_18 : decode cX11_walkOrRead 18 = .ok (.invokevirtual 214, 3) := by decide +kernel
theorem dX11_walkOrRead_21 : decode cX11_walkOrRead 21 = .ok (.pop, 1) := by decide +kernel
theorem dX11_walkOrRead_22 : decode cX11_walkOrRead 22 = .ok (.iconst 1, 1) := by decide +kernel
theorem dX11_walkOrRead_23 : decode cX11_walkOrRead 23 = .ok (.ireturn, 1) := by decide +kernel
theorem dX11_walkOrRead_24 : decode cX11_walkOrRead 24 = .ok (.aload_n 0, 1) := by decide +kernel
theorem dX11_walkOrRead_25 : decode cX11_walkOrRead 25 = .ok (.getfield 56, 3) := by decide +kernel
theorem dX11_walkOrRead_28 : decode cX11_walkOrRead 28 = .ok (.iconst 1, 1) := by decide +kernel
theorem dX11_walkOrRead_29 : decode cX11_walkOrRead 29 = .ok (.iconst (-1), 1) := by decide +kernel
theorem dX11_walkOrRead_30 : decode cX11_walkOrRead 30 = .ok (.invokevirtual 207, 3) := by decide +kernel
theorem dX11_walkOrRead_33 : decode cX11_walkOrRead 33 = .ok (.ifCond .eq 13, 3) := by decide +kernel
theorem dX11_walkOrRead_36 : decode cX11_walkOrRead 36 = .ok (.aload_n 0, 1) := by decide +kernel
theorem dX11_walkOrRead_37 : decode cX11_walkOrRead 37 = .ok (.getfield 56, 3) := by decide +kernel
theorem dX11_walkOrRead_40 : decode cX11_walkOrRead 40 = .ok (.iconst 1, 1) := by decide +kernel
theorem dX11_walkOrRead_41 : decode cX11_walkOrRead 41 = .ok (.iconst (-1), 1) := by decide +kernel
theorem dX11_walkOrRead_42 : decode cX11_walkOrRead 42 = .ok (.invokevirtual 214, 3) := by decide +kernel
theorem dX11_walkOrRead_45 : decode cX11_walkOrRead 45 = .ok (.pop, 1) := by decide +kernel
theorem dX11_walkOrRead_46 : decode cX11_walkOrRead 46 = .ok (.iconst 0, 1) := by decide +kernel
theorem dX11_walkOrRead_47 : decode cX11_walkOrRead 47 = .ok (.ireturn, 1) := by decide +kernel
theorem dX11_drawnBehind_0 : decode cX11_drawnBehind 0 = .ok (.lload_n 0, 1) := by decide +kernel
theorem dX11_drawnBehind_1 : decode cX11_drawnBehind 1 = .ok (.ldc2_w 231, 3) := by decide +kernel
theorem dX11_drawnBehind_4 : decode cX11_drawnBehind 4 = .ok (.lmul, 1) := by decide +kernel
theorem dX11_drawnBehind_5 : decode cX11_drawnBehind 5 = .ok (.ldc2_w 233, 3) := by decide +kernel
theorem dX11_drawnBehind_8 : decode cX11_drawnBehind 8 = .ok (.ladd, 1) := by decide +kernel
theorem dX11_drawnBehind_9 : decode cX11_drawnBehind 9 = .ok (.lreturn, 1) := by decide +kernel
theorem dX11_draw_0 : decode cX11_draw 0 = .ok (.iload_n 2, 1) := by decide +kernel
theorem dX11_draw_1 : decode cX11_draw 1 = .ok (.ifCond .le 14, 3) := by decide +kernel
theorem dX11_draw_4 : decode cX11_draw 4 = .ok (.lload_n 0, 1) := by decide +kernel
theorem dX11_draw_5 : decode cX11_draw 5 = .ok (.bipush 33, 2) := by decide +kernel
theorem dX11_draw_7 : decode cX11_draw 7 = .ok (.lushr, 1) := by decide +kernel
theorem dX11_draw_8 : decode cX11_draw 8 = .ok (.iload_n 2, 1) := by decide +kernel
theorem dX11_draw_9 : decode cX11_draw 9 = .ok (.i2l, 1) := by decide +kernel
theorem dX11_draw_10 : decode cX11_draw 10 = .ok (.lrem, 1) := by decide +kernel
theorem dX11_draw_11 : decode cX11_draw 11 = .ok (.l2i, 1) := by decide +kernel
theorem dX11_draw_12 : decode cX11_draw 12 = .ok (.goto 4, 3) := by decide +kernel
theorem dX11_draw_15 : decode cX11_draw 15 = .ok (.iconst 0, 1) := by decide +kernel
theorem dX11_draw_16 : decode cX11_draw 16 = .ok (.ireturn, 1) := by decide +kernel
theorem dX11_undo_0 : decode cX11_undo 0 = .ok (.aload_n 0, 1) := by decide +kernel
theorem dX11_undo_1 : decode cX11_undo 1 = .ok (.getfield 66, 3) := by decide +kernel
theorem dX11_undo_4 : decode cX11_undo 4 = .ok (.aload_n 0, 1) := by decide +kernel
theorem dX11_undo_5 : decode cX11_undo 5 = .ok (.getfield 56, 3) := by decide +kernel
theorem dX11_undo_8 : decode cX11_undo 8 = .ok (.invokevirtual 235, 3) := by decide +kernel
theorem dX11_undo_11 : decode cX11_undo 11 = .ok (.ireturn, 1) := by decide +kernel
theorem dX11_log_0 : decode cX11_log 0 = .ok (.aload_n 0, 1) := by decide +kernel
theorem dX11_log_1 : decode cX11_log 1 = .ok (.getfield 73, 3) := by decide +kernel
theorem dX11_log_4 : decode cX11_log 4 = .ok (.aload_n 0, 1) := by decide +kernel
theorem dX11_log_5 : decode cX11_log 5 = .ok (.getfield 56, 3) := by decide +kernel
theorem dX11_log_8 : decode cX11_log 8 = .ok (.invokevirtual 239, 3) := by decide +kernel
theorem dX11_log_11 : decode cX11_log 11 = .ok (.iload_n 1, 1) := by decide +kernel
theorem dX11_log_12 : decode cX11_log 12 = .ok (.iload_n 2, 1) := by decide +kernel
theorem dX11_log_13 : decode cX11_log 13 = .ok (.invokevirtual 242, 3) := by decide +kernel
theorem dX11_log_16 : decode cX11_log 16 = .ok (.ireturn, 1) := by decide +kernel
theorem dX11_step_0 : decode cX11_step 0 = .ok (.iload_n 2, 1) := by decide +kernel
theorem dX11_step_1 : decode cX11_step 1 = .ok (.ifCond .lt 24, 3) := by decide +kernel
theorem dX11_step_4 : decode cX11_step 4 = .ok (.iload_n 2, 1) := by decide +kernel
theorem dX11_step_5 : decode cX11_step 5 = .ok (.aload_n 0, 1) := by decide +kernel
theorem dX11_step_6 : decode cX11_step 6 = .ok (.getfield 47, 3) := by decide +kernel
theorem dX11_step_9 : decode cX11_step 9 = .ok (.iload_n 1, 1) := by decide +kernel
theorem dX11_step_10 : decode cX11_step 10 = .ok (.invokevirtual 246, 3) := by decide +kernel
theorem dX11_step_13 : decode cX11_step 13 = .ok (.if_icmp .ge 12, 3) := by decide +kernel
theorem dX11_step_16 : decode cX11_step 16 = .ok (.iload_n 3, 1) := by decide +kernel
theorem dX11_step_17 : decode cX11_step 17 = .ok (.ifCond .lt 8, 3) := by decide +kernel
theorem dX11_step_20 : decode cX11_step 20 = .ok (.iload_n 3, 1) := by decide +kernel
theorem dX11_step_21 : decode cX11_step 21 = .ok (.iconst 1, 1) := by decide +kernel
theorem dX11_step_22 : decode cX11_step 22 = .ok (.if_icmp .le 6, 3) := by decide +kernel
theorem dX11_step_25 : decode cX11_step 25 = .ok (.ldc 249, 2) := by decide +kernel
theorem dX11_step_27 : decode cX11_step 27 = .ok (.ireturn, 1) := by decide +kernel
theorem dX11_step_28 : decode cX11_step 28 = .ok (.iload_n 3, 1) := by decide +kernel
theorem dX11_step_29 : decode cX11_step 29 = .ok (.ifCond .ne 15, 3) := by decide +kernel
theorem dX11_step_32 : decode cX11_step 32 = .ok (.aload_n 0, 1) := by decide +kernel
theorem dX11_step_33 : decode cX11_step 33 = .ok (.getfield 47, 3) := by decide +kernel
theorem dX11_step_36 : decode cX11_step 36 = .ok (.iload_n 1, 1) := by decide +kernel
theorem dX11_step_37 : decode cX11_step 37 = .ok (.iload_n 2, 1) := by decide +kernel
theorem dX11_step_38 : decode cX11_step 38 = .ok (.invokevirtual 250, 3) := by decide +kernel
theorem dX11_step_41 : decode cX11_step 41 = .ok (.goto 12, 3) := by decide +kernel
theorem dX11_step_44 : decode cX11_step 44 = .ok (.aload_n 0, 1) := by decide +kernel
theorem dX11_step_45 : decode cX11_step 45 = .ok (.getfield 47, 3) := by decide +kernel
theorem dX11_step_48 : decode cX11_step 48 = .ok (.iload_n 1, 1) := by decide +kernel
theorem dX11_step_49 : decode cX11_step 49 = .ok (.iload_n 2, 1) := by decide +kernel
theorem dX11_step_50 : decode cX11_step 50 = .ok (.invokevirtual 253, 3) := by decide +kernel
theorem dX11_step_53 : decode cX11_step 53 = .ok (.ireturn, 1) := by decide +kernel
theorem dX11_run_0 : decode cX11_run 0 = .ok (.aload_n 0, 1) := by decide +kernel
theorem dX11_run_1 : decode cX11_run 1 = .ok (.getfield 19, 3) := by decide +kernel
theorem dX11_run_4 : decode cX11_run 4 = .ok (.invokevirtual 157, 3) := by decide +kernel
theorem dX11_run_7 : decode cX11_run 7 = .ok (.ifCond .eq 23, 3) := by decide +kernel
theorem dX11_run_10 : decode cX11_run 10 = .ok (.aload_n 0, 1) := by decide +kernel
theorem dX11_run_11 : decode cX11_run 11 = .ok (.getfield 47, 3) := by decide +kernel
theorem dX11_run_14 : decode cX11_run 14 = .ok (.iload_n 1, 1) := by decide +kernel
theorem dX11_run_15 : decode cX11_run 15 = .ok (.invokevirtual 256, 3) := by decide +kernel
theorem dX11_run_18 : decode cX11_run 18 = .ok (.ifCond .eq 12, 3) := by decide +kernel
theorem dX11_run_21 : decode cX11_run 21 = .ok (.iload_n 2, 1) := by decide +kernel
theorem dX11_run_22 : decode cX11_run 22 = .ok (.ifCond .lt 8, 3) := by decide +kernel
theorem dX11_run_25 : decode cX11_run 25 = .ok (.iload_n 2, 1) := by decide +kernel
theorem dX11_run_26 : decode cX11_run 26 = .ok (.iconst 1, 1) := by decide +kernel
theorem dX11_run_27 : decode cX11_run 27 = .ok (.if_icmp .le 6, 3) := by decide +kernel
theorem dX11_run_30 : decode cX11_run 30 = .ok (.ldc 249, 2) := by decide +kernel
theorem dX11_run_32 : decode cX11_run 32 = .ok (.ireturn, 1) := by decide +kernel
theorem dX11_run_33 : decode cX11_run 33 = .ok (.aload_n 0, 1) := by decide +kernel
theorem dX11_run_34 : decode cX11_run 34 = .ok (.getfield 60, 3) := by decide +kernel
theorem dX11_run_37 : decode cX11_run 37 = .ok (.aload_n 0, 1) := by decide +kernel
theorem dX11_run_38 : decode cX11_run 38 = .ok (.getfield 56, 3) := by decide +kernel
theorem dX11_run_41 : decode cX11_run 41 = .ok (.getfield 259, 3) := by decide +kernel
theorem dX11_run_44 : decode cX11_run 44 = .ok (.iconst 0, 1) := by decide +kernel
theorem dX11_run_45 : decode cX11_run 45 = .ok (.invokevirtual 262, 3) := by decide +kernel
theorem dX11_run_48 : decode cX11_run 48 = .ok (.aload_n 0, 1) := by decide +kernel
theorem dX11_run_49 : decode cX11_run 49 = .ok (.getfield 47, 3) := by decide +kernel
theorem dX11_run_52 : decode cX11_run 52 = .ok (.iload_n 1, 1) := by decide +kernel
theorem dX11_run_53 : decode cX11_run 53 = .ok (.invokevirtual 246, 3) := by decide +kernel
theorem dX11_run_56 : decode cX11_run 56 = .ok (.istore_n 3, 1) := by decide +kernel
theorem dX11_run_57 : decode cX11_run 57 = .ok (.iconst 0, 1) := by decide +kernel
theorem dX11_run_58 : decode cX11_run 58 = .ok (.istore 4, 2) := by decide +kernel
theorem dX11_run_60 : decode cX11_run 60 = .ok (.iload 4, 2) := by decide +kernel
theorem dX11_run_62 : decode cX11_run 62 = .ok (.iload_n 3, 1) := by decide +kernel
theorem dX11_run_63 : decode cX11_run 63 = .ok (.if_icmp .ge 19, 3) := by decide +kernel
theorem dX11_run_66 : decode cX11_run 66 = .ok (.aload_n 0, 1) := by decide +kernel
theorem dX11_run_67 : decode cX11_run 67 = .ok (.iload_n 1, 1) := by decide +kernel
theorem dX11_run_68 : decode cX11_run 68 = .ok (.iload 4, 2) := by decide +kernel
theorem dX11_run_70 : decode cX11_run 70 = .ok (.invokevirtual 266, 3) := by decide +kernel
theorem dX11_run_73 : decode cX11_run 73 = .ok (.ifCond .eq 9, 3) := by decide +kernel
theorem dX11_run_76 : decode cX11_run 76 = .ok (.iinc 4 1, 3) := by decide +kernel
theorem dX11_run_79 : decode cX11_run 79 = .ok (.goto (-19), 3) := by decide +kernel
theorem dX11_run_82 : decode cX11_run 82 = .ok (.iload_n 2, 1) := by decide +kernel
theorem dX11_run_83 : decode cX11_run 83 = .ok (.iconst 1, 1) := by decide +kernel
theorem dX11_run_84 : decode cX11_run 84 = .ok (.if_icmp .ne 19, 3) := by decide +kernel
theorem dX11_run_87 : decode cX11_run 87 = .ok (.aload_n 0, 1) := by decide +kernel
theorem dX11_run_88 : decode cX11_run 88 = .ok (.getfield 60, 3) := by decide +kernel
theorem dX11_run_91 : decode cX11_run 91 = .ok (.invokevirtual 269, 3) := by decide +kernel
theorem dX11_run_94 : decode cX11_run 94 = .ok (.aload_n 0, 1) := by decide +kernel
theorem dX11_run_95 : decode cX11_run 95 = .ok (.getfield 56, 3) := by decide +kernel
theorem dX11_run_98 : decode cX11_run 98 = .ok (.invokevirtual 269, 3) := by decide +kernel
theorem dX11_run_101 : decode cX11_run 101 = .ok (.isub, 1) := by decide +kernel
theorem dX11_run_102 : decode cX11_run 102 = .ok (.ireturn, 1) := by decide +kernel
theorem dX11_run_103 : decode cX11_run 103 = .ok (.iload 4, 2) := by decide +kernel
theorem dX11_run_105 : decode cX11_run 105 = .ok (.iload_n 3, 1) := by decide +kernel
theorem dX11_run_106 : decode cX11_run 106 = .ok (.if_icmp .ge 8, 3) := by decide +kernel
theorem dX11_run_109 : decode cX11_run 109 = .ok (.iload 4, 2) := by decide +kernel
theorem dX11_run_111 : decode cX11_run 111 = .ok (.goto 4, 3) := by decide +kernel
theorem dX11_run_114 : decode cX11_run 114 = .ok (.iconst (-1), 1) := by decide +kernel
theorem dX11_run_115 : decode cX11_run 115 = .ok (.ireturn, 1) := by decide +kernel
theorem dX11_tryStep_0 : decode cX11_tryStep 0 = .ok (.aload_n 0, 1) := by decide +kernel
theorem dX11_tryStep_1 : decode cX11_tryStep 1 = .ok (.getfield 47, 3) := by decide +kernel
theorem dX11_tryStep_4 : decode cX11_tryStep 4 = .ok (.iload_n 1, 1) := by decide +kernel
theorem dX11_tryStep_5 : decode cX11_tryStep 5 = .ok (.iload_n 2, 1) := by decide +kernel
theorem dX11_tryStep_6 : decode cX11_tryStep 6 = .ok (.invokevirtual 250, 3) := by decide +kernel
theorem dX11_tryStep_9 : decode cX11_tryStep 9 = .ok (.istore_n 3, 1) := by decide +kernel
theorem dX11_tryStep_10 : decode cX11_tryStep 10 = .ok (.aload_n 0, 1) := by decide +kernel
theorem dX11_tryStep_11 : decode cX11_tryStep 11 = .ok (.getfield 47, 3) := by decide +kernel
theorem dX11_tryStep_14 : decode cX11_tryStep 14 = .ok (.iload_n 1, 1) := by decide +kernel
theorem dX11_tryStep_15 : decode cX11_tryStep 15 = .ok (.iload_n 2, 1) := by decide +kernel
theorem dX11_tryStep_16 : decode cX11_tryStep 16 = .ok (.invokevirtual 253, 3) := by decide +kernel
theorem dX11_tryStep_19 : decode cX11_tryStep 19 = .ok (.istore 4, 2) := by decide +kernel
theorem dX11_tryStep_21 : decode cX11_tryStep 21 = .ok (.aload_n 0, 1) := by decide +kernel
theorem dX11_tryStep_22 : decode cX11_tryStep 22 = .ok (.getfield 60, 3) := by decide +kernel
theorem dX11_tryStep_25 : decode cX11_tryStep 25 = .ok (.iload_n 3, 1) := by decide +kernel
theorem dX11_tryStep_26 : decode cX11_tryStep 26 = .ok (.iload 4, 2) := by decide +kernel
theorem dX11_tryStep_28 : decode cX11_tryStep 28 = .ok (.invokevirtual 207, 3) := by decide +kernel
theorem dX11_tryStep_31 : decode cX11_tryStep 31 = .ok (.ifCond .ne 5, 3) := by decide +kernel
theorem dX11_tryStep_34 : decode cX11_tryStep 34 = .ok (.iconst 0, 1) := by decide +kernel
theorem dX11_tryStep_35 : decode cX11_tryStep 35 = .ok (.ireturn, 1) := by decide +kernel
theorem dX11_tryStep_36 : decode cX11_tryStep 36 = .ok (.aload_n 0, 1) := by decide +kernel
theorem dX11_tryStep_37 : decode cX11_tryStep 37 = .ok (.getfield 60, 3) := by decide +kernel
theorem dX11_tryStep_40 : decode cX11_tryStep 40 = .ok (.iload_n 3, 1) := by decide +kernel
theorem dX11_tryStep_41 : decode cX11_tryStep 41 = .ok (.iload 4, 2) := by decide +kernel
theorem dX11_tryStep_43 : decode cX11_tryStep 43 = .ok (.invokevirtual 214, 3) := by decide +kernel
theorem dX11_tryStep_46 : decode cX11_tryStep 46 = .ok (.pop, 1) := by decide +kernel
theorem dX11_tryStep_47 : decode cX11_tryStep 47 = .ok (.iconst 1, 1) := by decide +kernel
theorem dX11_tryStep_48 : decode cX11_tryStep 48 = .ok (.ireturn, 1) := by decide +kernel
theorem dX11_perform_0 : decode cX11_perform 0 = .ok (.aload_n 0, 1) := by decide +kernel
theorem dX11_perform_1 : decode cX11_perform 1 = .ok (.getfield 19, 3) := by decide +kernel
theorem dX11_perform_4 : decode cX11_perform 4 = .ok (.invokevirtual 157, 3) := by decide +kernel
theorem dX11_perform_7 : decode cX11_perform 7 = .ok (.ifCond .eq 14, 3) := by decide +kernel
theorem dX11_perform_10 : decode cX11_perform 10 = .ok (.aload_n 0, 1) := by decide +kernel
theorem dX11_perform_11 : decode cX11_perform 11 = .ok (.getfield 47, 3) := by decide +kernel
theorem dX11_perform_14 : decode cX11_perform 14 = .ok (.iload_n 1, 1) := by decide +kernel
theorem dX11_perform_15 : decode cX11_perform 15 = .ok (.invokevirtual 256, 3) := by decide +kernel
theorem dX11_perform_18 : decode cX11_perform 18 = .ok (.ifCond .ne 5, 3) := by decide +kernel
theorem dX11_perform_21 : decode cX11_perform 21 = .ok (.iconst (-1), 1) := by decide +kernel
theorem dX11_perform_22 : decode cX11_perform 22 = .ok (.ireturn, 1) := by decide +kernel
theorem dX11_perform_23 : decode cX11_perform 23 = .ok (.aload_n 0, 1) := by decide +kernel
theorem dX11_perform_24 : decode cX11_perform 24 = .ok (.getfield 47, 3) := by decide +kernel
theorem dX11_perform_27 : decode cX11_perform 27 = .ok (.iload_n 1, 1) := by decide +kernel
theorem dX11_perform_28 : decode cX11_perform 28 = .ok (.invokevirtual 246, 3) := by decide +kernel
theorem dX11_perform_31 : decode cX11_perform 31 = .ok (.istore_n 2, 1) := by decide +kernel
theorem dX11_perform_32 : decode cX11_perform 32 = .ok (.iconst 0, 1) := by decide +kernel
theorem dX11_perform_33 : decode cX11_perform 33 = .ok (.istore_n 3, 1) := by decide +kernel
theorem dX11_perform_34 : decode cX11_perform 34 = .ok (.iload_n 3, 1) := by decide +kernel
theorem dX11_perform_35 : decode cX11_perform 35 = .ok (.iload_n 2, 1) := by decide +kernel
theorem dX11_perform_36 : decode cX11_perform 36 = .ok (.if_icmp .ge 35, 3) := by decide +kernel
theorem dX11_perform_39 : decode cX11_perform 39 = .ok (.aload_n 0, 1) := by decide +kernel
theorem dX11_perform_40 : decode cX11_perform 40 = .ok (.aload_n 0, 1) := by decide +kernel
theorem dX11_perform_41 : decode cX11_perform 41 = .ok (.getfield 47, 3) := by decide +kernel
theorem dX11_perform_44 : decode cX11_perform 44 = .ok (.iload_n 1, 1) := by decide +kernel
theorem dX11_perform_45 : decode cX11_perform 45 = .ok (.iload_n 3, 1) := by decide +kernel
theorem dX11_perform_46 : decode cX11_perform 46 = .ok (.invokevirtual 250, 3) := by decide +kernel
theorem dX11_perform_49 : decode cX11_perform 49 = .ok (.aload_n 0, 1) := by decide +kernel
theorem dX11_perform_50 : decode cX11_perform 50 = .ok (.getfield 47, 3) := by decide +kernel
theorem dX11_perform_53 : decode cX11_perform 53 = .ok (.iload_n 1, 1) := by decide +kernel
theorem dX11_perform_54 : decode cX11_perform 54 = .ok (.iload_n 3, 1) := by decide +kernel
theorem dX11_perform_55 : decode cX11_perform 55 = .ok (.invokevirtual 253, 3) := by decide +kernel
theorem dX11_perform_58 : decode cX11_perform 58 = .ok (.invokevirtual 196, 3) := by decide +kernel
theorem dX11_perform_61 : decode cX11_perform 61 = .ok (.iconst (-1), 1) := by decide +kernel
theorem dX11_perform_62 : decode cX11_perform 62 = .ok (.if_icmp .eq 9, 3) := by decide +kernel
theorem dX11_perform_65 : decode cX11_perform 65 = .ok (.iinc 3 1, 3) := by decide +kernel
theorem dX11_perform_68 : decode cX11_perform 68 = .ok (.goto (-34), 3) := by decide +kernel
theorem dX11_perform_71 : decode cX11_perform 71 = .ok (.iload_n 3, 1) := by decide +kernel
theorem dX11_perform_72 : decode cX11_perform 72 = .ok (.ireturn, 1) := by decide +kernel
theorem dX11_troubles_0 : decode cX11_troubles 0 = .ok (.aload_n 0, 1) := by decide +kernel
theorem dX11_troubles_1 : decode cX11_troubles 1 = .ok (.getfield 19, 3) := by decide +kernel
theorem dX11_troubles_4 : decode cX11_troubles 4 = .ok (.iload_n 1, 1) := by decide +kernel
theorem dX11_troubles_5 : decode cX11_troubles 5 = .ok (.invokevirtual 164, 3) := by decide +kernel
theorem dX11_troubles_8 : decode cX11_troubles 8 = .ok (.ifCond .eq 15, 3) := by decide +kernel
theorem dX11_troubles_11 : decode cX11_troubles 11 = .ok (.aload_n 0, 1) := by decide +kernel
theorem dX11_troubles_12 : decode cX11_troubles 12 = .ok (.getfield 56, 3) := by decide +kernel
theorem dX11_troubles_15 : decode cX11_troubles 15 = .ok (.iload_n 1, 1) := by decide +kernel
theorem dX11_troubles_16 : decode cX11_troubles 16 = .ok (.iconst 0, 1) := by decide +kernel
theorem dX11_troubles_17 : decode cX11_troubles 17 = .ok (.invokevirtual 272, 3) := by decide +kernel
theorem dX11_troubles_20 : decode cX11_troubles 20 = .ok (.goto 4, 3) := by decide +kernel
theorem dX11_troubles_23 : decode cX11_troubles 23 = .ok (.iconst (-1), 1) := by decide +kernel
theorem dX11_troubles_24 : decode cX11_troubles 24 = .ok (.ireturn, 1) := by decide +kernel
theorem dX11_sees_0 : decode cX11_sees 0 = .ok (.aload_n 0, 1) := by decide +kernel
theorem dX11_sees_1 : decode cX11_sees 1 = .ok (.getfield 19, 3) := by decide +kernel
theorem dX11_sees_4 : decode cX11_sees 4 = .ok (.invokevirtual 157, 3) := by decide +kernel
theorem dX11_sees_7 : decode cX11_sees 7 = .ok (.ifCond .eq 12, 3) := by decide +kernel
theorem dX11_sees_10 : decode cX11_sees 10 = .ok (.iload_n 1, 1) := by decide +kernel
theorem dX11_sees_11 : decode cX11_sees 11 = .ok (.ifCond .lt 8, 3) := by decide +kernel
theorem dX11_sees_14 : decode cX11_sees 14 = .ok (.iload_n 1, 1) := by decide +kernel
theorem dX11_sees_15 : decode cX11_sees 15 = .ok (.iconst 2, 1) := by decide +kernel
theorem dX11_sees_16 : decode cX11_sees 16 = .ok (.if_icmp .le 5, 3) := by decide +kernel
theorem dX11_sees_19 : decode cX11_sees 19 = .ok (.iconst (-1), 1) := by decide +kernel
theorem dX11_sees_20 : decode cX11_sees 20 = .ok (.ireturn, 1) := by decide +kernel
theorem dX11_sees_21 : decode cX11_sees 21 = .ok (.aload_n 0, 1) := by decide +kernel
theorem dX11_sees_22 : decode cX11_sees 22 = .ok (.getfield 98, 3) := by decide +kernel
theorem dX11_sees_25 : decode cX11_sees 25 = .ok (.invokevirtual 275, 3) := by decide +kernel
theorem dX11_sees_28 : decode cX11_sees 28 = .ok (.iload_n 1, 1) := by decide +kernel
theorem dX11_sees_29 : decode cX11_sees 29 = .ok (.ifCond .ne 13, 3) := by decide +kernel
theorem dX11_sees_32 : decode cX11_sees 32 = .ok (.aload_n 0, 1) := by decide +kernel
theorem dX11_sees_33 : decode cX11_sees 33 = .ok (.getfield 98, 3) := by decide +kernel
theorem dX11_sees_36 : decode cX11_sees 36 = .ok (.getfield 278, 3) := by decide +kernel
theorem dX11_sees_39 : decode cX11_sees 39 = .ok (.goto 25, 3) := by decide +kernel
theorem dX11_sees_42 : decode cX11_sees 42 = .ok (.iload_n 1, 1) := by decide +kernel
theorem dX11_sees_43 : decode cX11_sees 43 = .ok (.iconst 1, 1) := by decide +kernel
theorem dX11_sees_44 : decode cX11_sees 44 = .ok (.if_icmp .ne 13, 3) := by decide +kernel
theorem dX11_sees_47 : decode cX11_sees 47 = .ok (.aload_n 0, 1) := by decide +kernel
theorem dX11_sees_48 : decode cX11_sees 48 = .ok (.getfield 98, 3) := by decide +kernel
theorem dX11_sees_51 : decode cX11_sees 51 = .ok (.getfield 281, 3) := by decide +kernel
theorem dX11_sees_54 : decode cX11_sees 54 = .ok (.goto 10, 3) := by decide +kernel
theorem dX11_sees_57 : decode cX11_sees 57 = .ok (.aload_n 0, 1) := by decide +kernel
theorem dX11_sees_58 : decode cX11_sees 58 = .ok (.getfield 98, 3) := by decide +kernel
theorem dX11_sees_61 : decode cX11_sees 61 = .ok (.getfield 284, 3) := by decide +kernel
theorem dX11_sees_64 : decode cX11_sees 64 = .ok (.ireturn, 1) := by decide +kernel
theorem dX11_least_0 : decode cX11_least 0 = .ok (.aload_n 0, 1) := by decide +kernel
theorem dX11_least_1 : decode cX11_least 1 = .ok (.getfield 19, 3) := by decide +kernel
theorem dX11_least_4 : decode cX11_least 4 = .ok (.iload_n 1, 1) := by decide +kernel
theorem dX11_least_5 : decode cX11_least 5 = .ok (.invokevirtual 287, 3) := by decide +kernel
theorem dX11_least_8 : decode cX11_least 8 = .ok (.ifCond .eq 12, 3) := by decide +kernel
theorem dX11_least_11 : decode cX11_least 11 = .ok (.iload_n 2, 1) := by decide +kernel
theorem dX11_least_12 : decode cX11_least 12 = .ok (.ifCond .lt 8, 3) := by decide +kernel
theorem dX11_least_15 : decode cX11_least 15 = .ok (.iload_n 2, 1) := by decide +kernel
theorem dX11_least_16 : decode cX11_least 16 = .ok (.iconst 1, 1) := by decide +kernel
theorem dX11_least_17 : decode cX11_least 17 = .ok (.if_icmp .le 5, 3) := by decide +kernel
theorem dX11_least_20 : decode cX11_least 20 = .ok (.iconst (-1), 1) := by decide +kernel
theorem dX11_least_21 : decode cX11_least 21 = .ok (.ireturn, 1) := by decide +kernel
theorem dX11_least_22 : decode cX11_least 22 = .ok (.aload_n 0, 1) := by decide +kernel
theorem dX11_least_23 : decode cX11_least 23 = .ok (.getfield 98, 3) := by decide +kernel
theorem dX11_least_26 : decode cX11_least 26 = .ok (.iload_n 1, 1) := by decide +kernel
theorem dX11_least_27 : decode cX11_least 27 = .ok (.invokevirtual 290, 3) := by decide +kernel
theorem dX11_least_30 : decode cX11_least 30 = .ok (.aload_n 0, 1) := by decide +kernel
theorem dX11_least_31 : decode cX11_least 31 = .ok (.getfield 98, 3) := by decide +kernel
theorem dX11_least_34 : decode cX11_least 34 = .ok (.getfield 278, 3) := by decide +kernel
theorem dX11_least_37 : decode cX11_least 37 = .ok (.iconst (-1), 1) := by decide +kernel
theorem dX11_least_38 : decode cX11_least 38 = .ok (.if_icmp .ne 5, 3) := by decide +kernel
theorem dX11_least_41 : decode cX11_least 41 = .ok (.iconst (-1), 1) := by decide +kernel
theorem dX11_least_42 : decode cX11_least 42 = .ok (.ireturn, 1) := by decide +kernel
theorem dX11_least_43 : decode cX11_least 43 = .ok (.iload_n 2, 1) := by decide +kernel
theorem dX11_least_44 : decode cX11_least 44 = .ok (.ifCond .ne 13, 3) := by decide +kernel
theorem dX11_least_47 : decode cX11_least 47 = .ok (.aload_n 0, 1) := by decide +kernel
theorem dX11_least_48 : decode cX11_least 48 = .ok (.getfield 98, 3) := by decide +kernel
theorem dX11_least_51 : decode cX11_least 51 = .ok (.getfield 278, 3) := by decide +kernel
theorem dX11_least_54 : decode cX11_least 54 = .ok (.goto 10, 3) := by decide +kernel
theorem dX11_least_57 : decode cX11_least 57 = .ok (.aload_n 0, 1) := by decide +kernel
theorem dX11_least_58 : decode cX11_least 58 = .ok (.getfield 98, 3) := by decide +kernel
theorem dX11_least_61 : decode cX11_least 61 = .ok (.getfield 281, 3) := by decide +kernel
theorem dX11_least_64 : decode cX11_least 64 = .ok (.ireturn, 1) := by decide +kernel
theorem dX11_manners_0 : decode cX11_manners 0 = .ok (.aload_n 0, 1) := by decide +kernel
theorem dX11_manners_1 : decode cX11_manners 1 = .ok (.getfield 19, 3) := by decide +kernel
theorem dX11_manners_4 : decode cX11_manners 4 = .ok (.iload_n 1, 1) := by decide +kernel
theorem dX11_manners_5 : decode cX11_manners 5 = .ok (.invokevirtual 287, 3) := by decide +kernel
theorem dX11_manners_8 : decode cX11_manners 8 = .ok (.ifCond .eq 14, 3) := by decide +kernel
theorem dX11_manners_11 : decode cX11_manners 11 = .ok (.aload_n 0, 1) := by decide +kernel
theorem dX11_manners_12 : decode cX11_manners 12 = .ok (.getfield 40, 3) := by decide +kernel
theorem dX11_manners_15 : decode cX11_manners 15 = .ok (.getfield 187, 3) := by decide +kernel
theorem dX11_manners_18 : decode cX11_manners 18 = .ok (.iconst (-1), 1) := by decide +kernel
theorem dX11_manners_19 : decode cX11_manners 19 = .ok (.if_icmp .eq 5, 3) := by decide +kernel
theorem dX11_manners_22 : decode cX11_manners 22 = .ok (.iconst (-1), 1) := by decide +kernel
theorem dX11_manners_23 : decode cX11_manners 23 = .ok (.ireturn, 1) := by decide +kernel
theorem dX11_manners_24 : decode cX11_manners 24 = .ok (.aload_n 0, 1) := by decide +kernel
theorem dX11_manners_25 : decode cX11_manners 25 = .ok (.getfield 19, 3) := by decide +kernel
theorem dX11_manners_28 : decode cX11_manners 28 = .ok (.getfield 161, 3) := by decide +kernel
theorem dX11_manners_31 : decode cX11_manners 31 = .ok (.iconst 2, 1) := by decide +kernel
theorem dX11_manners_32 : decode cX11_manners 32 = .ok (.iaload, 1) := by decide +kernel
theorem dX11_manners_33 : decode cX11_manners 33 = .ok (.istore_n 2, 1) := by decide +kernel
theorem dX11_manners_34 : decode cX11_manners 34 = .ok (.iload_n 2, 1) := by decide +kernel
theorem dX11_manners_35 : decode cX11_manners 35 = .ok (.istore_n 3, 1) := by decide +kernel
theorem dX11_manners_36 : decode cX11_manners 36 = .ok (.iload_n 3, 1) := by decide +kernel
theorem dX11_manners_37 : decode cX11_manners 37 = .ok (.bipush 9, 2) := by decide +kernel
theorem dX11_manners_39 : decode cX11_manners 39 = .ok (.if_icmp .gt 25, 3) := by decide +kernel
theorem dX11_manners_42 : decode cX11_manners 42 = .ok (.aload_n 0, 1) := by decide +kernel
theorem dX11_manners_43 : decode cX11_manners 43 = .ok (.getfield 98, 3) := by decide +kernel
theorem dX11_manners_46 : decode cX11_manners 46 = .ok (.iload_n 1, 1) := by decide +kernel
theorem dX11_manners_47 : decode cX11_manners 47 = .ok (.iload_n 3, 1) := by decide +kernel
theorem dX11_manners_48 : decode cX11_manners 48 = .ok (.invokevirtual 293, 3) := by decide +kernel
theorem dX11_manners_51 : decode cX11_manners 51 = .ok (.ifCond .eq 7, 3) := by decide +kernel
theorem dX11_manners_54 : decode cX11_manners 54 = .ok (.iload_n 3, 1) := by decide +kernel
theorem dX11_manners_55 : decode cX11_manners 55 = .ok (.iload_n 2, 1) := by decide +kernel
theorem dX11_manners_56 : decode cX11_manners 56 = .ok (.isub, 1) := by decide +kernel
theorem dX11_manners_57 : decode cX11_manners 57 = .ok (.ireturn, 1) := by decide +kernel
theorem dX11_manners_58 : decode cX11_manners 58 = .ok (.iinc 3 1, 3) := by decide +kernel
theorem dX11_manners_61 : decode cX11_manners 61 = .ok (.goto (-25), 3) := by decide +kernel
theorem dX11_manners_64 : decode cX11_manners 64 = .ok (.iconst (-1), 1) := by decide +kernel
theorem dX11_manners_65 : decode cX11_manners 65 = .ok (.ireturn, 1) := by decide +kernel
theorem dX11_noted_0 : decode cX11_noted 0 = .ok (.aload_n 0, 1) := by decide +kernel
theorem dX11_noted_1 : decode cX11_noted 1 = .ok (.getfield 19, 3) := by decide +kernel
theorem dX11_noted_4 : decode cX11_noted 4 = .ok (.iload_n 1, 1) := by decide +kernel
theorem dX11_noted_5 : decode cX11_noted 5 = .ok (.invokevirtual 164, 3) := by decide +kernel
theorem dX11_noted_8 : decode cX11_noted 8 = .ok (.ifCond .eq 13, 3) := by decide +kernel
theorem dX11_noted_11 : decode cX11_noted 11 = .ok (.iload_n 2, 1) := by decide +kernel
theorem dX11_noted_12 : decode cX11_noted 12 = .ok (.ifCond .lt 9, 3) := by decide +kernel
theorem dX11_noted_15 : decode cX11_noted 15 = .ok (.iload_n 2, 1) := by decide +kernel
theorem dX11_noted_16 : decode cX11_noted 16 = .ok (.bipush 60, 2) := by decide +kernel
theorem dX11_noted_18 : decode cX11_noted 18 = .ok (.if_icmp .le 5, 3) := by decide +kernel
theorem dX11_noted_21 : decode cX11_noted 21 = .ok (.iconst (-1), 1) := by decide +kernel
theorem dX11_noted_22 : decode cX11_noted 22 = .ok (.ireturn, 1) := by decide +kernel
theorem dX11_noted_23 : decode cX11_noted 23 = .ok (.aload_n 0, 1) := by decide +kernel
theorem dX11_noted_24 : decode cX11_noted 24 = .ok (.getfield 89, 3) := by decide +kernel
theorem dX11_noted_27 : decode cX11_noted 27 = .ok (.iload_n 1, 1) := by decide +kernel
theorem dX11_noted_28 : decode cX11_noted 28 = .ok (.iload_n 2, 1) := by decide +kernel
theorem dX11_noted_29 : decode cX11_noted 29 = .ok (.iload_n 3, 1) := by decide +kernel
theorem dX11_noted_30 : decode cX11_noted 30 = .ok (.invokevirtual 296, 3) := by decide +kernel
theorem dX11_noted_33 : decode cX11_noted 33 = .ok (.ireturn, 1) := by decide +kernel
theorem dX11_ways_0 : decode cX11_ways 0 = .ok (.aload_n 0, 1) := by decide +kernel
theorem dX11_ways_1 : decode cX11_ways 1 = .ok (.iload_n 1, 1) := by decide +kernel
theorem dX11_ways_2 : decode cX11_ways 2 = .ok (.invokevirtual 300, 3) := by decide +kernel
theorem dX11_ways_5 : decode cX11_ways 5 = .ok (.ifCond .eq 8, 3) := by decide +kernel
theorem dX11_ways_8 : decode cX11_ways 8 = .ok (.iload_n 2, 1) := by decide +kernel
theorem dX11_ways_9 : decode cX11_ways 9 = .ok (.iconst (-1), 1) := by decide +kernel
theorem dX11_ways_10 : decode cX11_ways 10 = .ok (.if_icmp .ge 5, 3) := by decide +kernel
theorem dX11_ways_13 : decode cX11_ways 13 = .ok (.iconst (-1), 1) := by decide +kernel
theorem dX11_ways_14 : decode cX11_ways 14 = .ok (.ireturn, 1) := by decide +kernel
theorem dX11_ways_15 : decode cX11_ways 15 = .ok (.aload_n 0, 1) := by decide +kernel
theorem dX11_ways_16 : decode cX11_ways 16 = .ok (.getfield 89, 3) := by decide +kernel
theorem dX11_ways_19 : decode cX11_ways 19 = .ok (.iload_n 1, 1) := by decide +kernel
theorem dX11_ways_20 : decode cX11_ways 20 = .ok (.iload_n 2, 1) := by decide +kernel
theorem dX11_ways_21 : decode cX11_ways 21 = .ok (.iconst 0, 1) := by decide +kernel
theorem dX11_ways_22 : decode cX11_ways 22 = .ok (.invokevirtual 303, 3) := by decide +kernel
theorem dX11_ways_25 : decode cX11_ways 25 = .ok (.iload_n 2, 1) := by decide +kernel
theorem dX11_ways_26 : decode cX11_ways 26 = .ok (.iconst (-1), 1) := by decide +kernel
theorem dX11_ways_27 : decode cX11_ways 27 = .ok (.if_icmp .ne 13, 3) := by decide +kernel
theorem dX11_ways_30 : decode cX11_ways 30 = .ok (.aload_n 0, 1) := by decide +kernel
theorem dX11_ways_31 : decode cX11_ways 31 = .ok (.getfield 89, 3) := by decide +kernel
theorem dX11_ways_34 : decode cX11_ways 34 = .ok (.getfield 307, 3) := by decide +kernel
theorem dX11_ways_37 : decode cX11_ways 37 = .ok (.goto 10, 3) := by decide +kernel
theorem dX11_ways_40 : decode cX11_ways 40 = .ok (.aload_n 0, 1) := by decide +kernel
theorem dX11_ways_41 : decode cX11_ways 41 = .ok (.getfield 89, 3) := by decide +kernel
theorem dX11_ways_44 : decode cX11_ways 44 = .ok (.getfield 310, 3) := by decide +kernel
theorem dX11_ways_47 : decode cX11_ways 47 = .ok (.ireturn, 1) := by decide +kernel
theorem dX11_ask_0 : decode cX11_ask 0 = .ok (.aload_n 0, 1) := by decide +kernel
theorem dX11_ask_1 : decode cX11_ask 1 = .ok (.iload_n 1, 1) := by decide +kernel
theorem dX11_ask_2 : decode cX11_ask 2 = .ok (.invokevirtual 300, 3) := by decide +kernel
theorem dX11_ask_5 : decode cX11_ask 5 = .ok (.ifCond .eq 13, 3) := by decide +kernel
theorem dX11_ask_8 : decode cX11_ask 8 = .ok (.iload_n 2, 1) := by decide +kernel
theorem dX11_ask_9 : decode cX11_ask 9 = .ok (.ifCond .lt 9, 3) := by decide +kernel
theorem dX11_ask_12 : decode cX11_ask 12 = .ok (.iload_n 2, 1) := by decide +kernel
theorem dX11_ask_13 : decode cX11_ask 13 = .ok (.bipush 60, 2) := by decide +kernel
theorem dX11_ask_15 : decode cX11_ask 15 = .ok (.if_icmp .le 5, 3) := by decide +kernel
theorem dX11_ask_18 : decode cX11_ask 18 = .ok (.iconst (-1), 1) := by decide +kernel
theorem dX11_ask_19 : decode cX11_ask 19 = .ok (.ireturn, 1) := by decide +kernel
theorem dX11_ask_20 : decode cX11_ask 20 = .ok (.aload_n 0, 1) := by decide +kernel
theorem dX11_ask_21 : decode cX11_ask 21 = .ok (.getfield 89, 3) := by decide +kernel
theorem dX11_ask_24 : decode cX11_ask 24 = .ok (.iload_n 1, 1) := by decide +kernel
theorem dX11_ask_25 : decode cX11_ask 25 = .ok (.iconst (-1), 1) := by decide +kernel
theorem dX11_ask_26 : decode cX11_ask 26 = .ok (.iload_n 2, 1) := by decide +kernel
theorem dX11_ask_27 : decode cX11_ask 27 = .ok (.invokevirtual 303, 3) := by decide +kernel
theorem dX11_ask_30 : decode cX11_ask 30 = .ok (.aload_n 0, 1) := by decide +kernel
theorem dX11_ask_31 : decode cX11_ask 31 = .ok (.getfield 89, 3) := by decide +kernel
theorem dX11_ask_34 : decode cX11_ask 34 = .ok (.getfield 307, 3) := by decide +kernel
theorem dX11_ask_37 : decode cX11_ask 37 = .ok (.ifCond .ne 7, 3) := by decide +kernel
theorem dX11_ask_40 : decode cX11_ask 40 = .ok (.iconst (-1), 1) := by decide +kernel
theorem dX11_ask_41 : decode cX11_ask 41 = .ok (.goto 10, 3) := by decide +kernel
theorem dX11_ask_44 : decode cX11_ask 44 = .ok (.aload_n 0, 1) := by decide +kernel
theorem dX11_ask_45 : decode cX11_ask 45 = .ok (.getfield 89, 3) := by decide +kernel
theorem dX11_ask_48 : decode cX11_ask 48 = .ok (.invokevirtual 313, 3) := by decide +kernel
theorem dX11_ask_51 : decode cX11_ask 51 = .ok (.ireturn, 1) := by decide +kernel
theorem dX11_always_0 : decode cX11_always 0 = .ok (.aload_n 0, 1) := by decide +kernel
theorem dX11_always_1 : decode cX11_always 1 = .ok (.iload_n 1, 1) := by decide +kernel
theorem dX11_always_2 : decode cX11_always 2 = .ok (.invokevirtual 300, 3) := by decide +kernel
theorem dX11_always_5 : decode cX11_always 5 = .ok (.ifCond .ne 5, 3) := by decide +kernel
theorem dX11_always_8 : decode cX11_always 8 = .ok (.iconst (-1), 1) := by decide +kernel
theorem dX11_always_9 : decode cX11_always 9 = .ok (.ireturn, 1) := by decide +kernel
theorem dX11_always_10 : decode cX11_always 10 = .ok (.aload_n 0, 1) := by decide +kernel
theorem dX11_always_11 : decode cX11_always 11 = .ok (.getfield 89, 3) := by decide +kernel
theorem dX11_always_14 : decode cX11_always 14 = .ok (.iload_n 1, 1) := by decide +kernel
theorem dX11_always_15 : decode cX11_always 15 = .ok (.iconst (-1), 1) := by decide +kernel
theorem dX11_always_16 : decode cX11_always 16 = .ok (.iconst 0, 1) := by decide +kernel
theorem dX11_always_17 : decode cX11_always 17 = .ok (.invokevirtual 303, 3) := by decide +kernel
theorem dX11_always_20 : decode cX11_always 20 = .ok (.aload_n 0, 1) := by decide +kernel
theorem dX11_always_21 : decode cX11_always 21 = .ok (.getfield 89, 3) := by decide +kernel
theorem dX11_always_24 : decode cX11_always 24 = .ok (.getfield 307, 3) := by decide +kernel
theorem dX11_always_27 : decode cX11_always 27 = .ok (.ifCond .ne 7, 3) := by decide +kernel
theorem dX11_always_30 : decode cX11_always 30 = .ok (.iconst (-1), 1) := by decide +kernel
theorem dX11_always_31 : decode cX11_always 31 = .ok (.goto 10, 3) := by decide +kernel
theorem dX11_always_34 : decode cX11_always 34 = .ok (.aload_n 0, 1) := by decide +kernel
theorem dX11_always_35 : decode cX11_always 35 = .ok (.getfield 89, 3) := by decide +kernel
theorem dX11_always_38 : decode cX11_always 38 = .ok (.getfield 316, 3) := by decide +kernel
theorem dX11_always_41 : decode cX11_always 41 = .ok (.ireturn, 1) := by decide +kernel
theorem dX11_canGather_0 : decode cX11_canGather 0 = .ok (.aload_n 0, 1) := by decide +kernel
theorem dX11_canGather_1 : decode cX11_canGather 1 = .ok (.getfield 19, 3) := by decide +kernel
theorem dX11_canGather_4 : decode cX11_canGather 4 = .ok (.invokevirtual 157, 3) := by decide +kernel
theorem dX11_canGather_7 : decode cX11_canGather 7 = .ok (.ifCond .eq 17, 3) := by decide +kernel
theorem dX11_canGather_10 : decode cX11_canGather 10 = .ok (.iload_n 1, 1) := by decide +kernel
theorem dX11_canGather_11 : decode cX11_canGather 11 = .ok (.iconst 1, 1) := by decide +kernel
theorem dX11_canGather_12 : decode cX11_canGather 12 = .ok (.if_icmp .lt 12, 3) := by decide +kernel
theorem dX11_canGather_15 : decode cX11_canGather 15 = .ok (.iload_n 1, 1) := by decide +kernel
theorem dX11_canGather_16 : decode cX11_canGather 16 = .ok (.iconst 4, 1) := by decide +kernel
theorem dX11_canGather_17 : decode cX11_canGather 17 = .ok (.if_icmp .gt 7, 3) := by decide +kernel
theorem dX11_canGather_20 : decode cX11_canGather 20 = .ok (.iconst 1, 1) := by decide +kernel
theorem dX11_canGather_21 : decode cX11_canGather 21 = .ok (.goto 4, 3) := by decide +kernel
theorem dX11_canGather_24 : decode cX11_canGather 24 = .ok (.iconst 0, 1) := by decide +kernel
theorem dX11_canGather_25 : decode cX11_canGather 25 = .ok (.ireturn, 1) := by decide +kernel
theorem dX11_round_0 : decode cX11_round 0 = .ok (.aload_n 0, 1) := by decide +kernel
theorem dX11_round_1 : decode cX11_round 1 = .ok (.getfield 19, 3) := by decide +kernel
theorem dX11_round_4 : decode cX11_round 4 = .ok (.iload_n 1, 1) := by decide +kernel
theorem dX11_round_5 : decode cX11_round 5 = .ok (.invokevirtual 319, 3) := by decide +kernel
theorem dX11_round_8 : decode cX11_round 8 = .ok (.ireturn, 1) := by decide +kernel
theorem dX11_meets_0 : decode cX11_meets 0 = .ok (.aload_n 0, 1) := by decide +kernel
theorem dX11_meets_1 : decode cX11_meets 1 = .ok (.getfield 105, 3) := by decide +kernel
theorem dX11_meets_4 : decode cX11_meets 4 = .ok (.iload_n 1, 1) := by decide +kernel
theorem dX11_meets_5 : decode cX11_meets 5 = .ok (.iload_n 2, 1) := by decide +kernel
theorem dX11_meets_6 : decode cX11_meets 6 = .ok (.invokevirtual 322, 3) := by decide +kernel
theorem dX11_meets_9 : decode cX11_meets 9 = .ok (.ifCond .eq 13, 3) := by decide +kernel
theorem dX11_meets_12 : decode cX11_meets 12 = .ok (.aload_n 0, 1) := by decide +kernel
theorem dX11_meets_13 : decode cX11_meets 13 = .ok (.getfield 105, 3) := by decide +kernel
theorem dX11_meets_16 : decode cX11_meets 16 = .ok (.invokevirtual 324, 3) := by decide +kernel
theorem dX11_meets_19 : decode cX11_meets 19 = .ok (.goto 4, 3) := by decide +kernel
theorem dX11_meets_22 : decode cX11_meets 22 = .ok (.iconst (-1), 1) := by decide +kernel
theorem dX11_meets_23 : decode cX11_meets 23 = .ok (.ireturn, 1) := by decide +kernel
theorem dX11_odds_0 : decode cX11_odds 0 = .ok (.iload_n 3, 1) := by decide +kernel
theorem dX11_odds_1 : decode cX11_odds 1 = .ok (.ifCond .lt 21, 3) := by decide +kernel
theorem dX11_odds_4 : decode cX11_odds 4 = .ok (.iload_n 3, 1) := by decide +kernel
theorem dX11_odds_5 : decode cX11_odds 5 = .ok (.bipush 100, 2) := by decide +kernel
theorem dX11_odds_7 : decode cX11_odds 7 = .ok (.if_icmp .gt 15, 3) := by decide +kernel
theorem dX11_odds_10 : decode cX11_odds 10 = .ok (.aload_n 0, 1) := by decide +kernel
theorem dX11_odds_11 : decode cX11_odds 11 = .ok (.getfield 105, 3) := by decide +kernel
theorem dX11_odds_14 : decode cX11_odds 14 = .ok (.iload_n 1, 1) := by decide +kernel
theorem dX11_odds_15 : decode cX11_odds 15 = .ok (.iload_n 2, 1) := by decide +kernel
theorem dX11_odds_16 : decode cX11_odds 16 = .ok (.invokevirtual 322, 3) := by decide +kernel
theorem dX11_odds_19 : decode cX11_odds 19 = .ok (.ifCond .ne 5, 3) := by decide +kernel
theorem dX11_odds_22 : decode cX11_odds 22 = .ok (.iconst (-1), 1) := by decide +kernel
theorem dX11_odds_23 : decode cX11_odds 23 = .ok (.ireturn, 1) := by decide +kernel
theorem dX11_odds_24 : decode cX11_odds 24 = .ok (.aload_n 0, 1) := by decide +kernel
theorem dX11_odds_25 : decode cX11_odds 25 = .ok (.getfield 105, 3) := by decide +kernel
theorem dX11_odds_28 : decode cX11_odds 28 = .ok (.iload_n 3, 1) := by decide +kernel
theorem dX11_odds_29 : decode cX11_odds 29 = .ok (.invokevirtual 327, 3) := by decide +kernel
theorem dX11_odds_32 : decode cX11_odds 32 = .ok (.ireturn, 1) := by decide +kernel
theorem dX11_game_0 : decode cX11_game 0 = .ok (.aload_n 0, 1) := by decide +kernel
theorem dX11_game_1 : decode cX11_game 1 = .ok (.iload_n 1, 1) := by decide +kernel
theorem dX11_game_2 : decode cX11_game 2 = .ok (.iload_n 2, 1) := by decide +kernel
theorem dX11_game_3 : decode cX11_game 3 = .ok (.invokevirtual 330, 3) := by decide +kernel
theorem dX11_game_6 : decode cX11_game 6 = .ok (.ifCond .eq 29, 3) := by decide +kernel
theorem dX11_game_9 : decode cX11_game 9 = .ok (.iload_n 3, 1) := by decide +kernel
theorem dX11_game_10 : decode cX11_game 10 = .ok (.invokestatic 333, 3) := by decide +kernel
theorem dX11_game_13 : decode cX11_game 13 = .ok (.ifCond .eq 22, 3) := by decide +kernel
theorem dX11_game_16 : decode cX11_game 16 = .ok (.iload 4, 2) := by decide +kernel
theorem dX11_game_18 : decode cX11_game 18 = .ok (.invokestatic 333, 3) := by decide +kernel
theorem dX11_game_21 : decode cX11_game 21 = .ok (.ifCond .eq 14, 3) := by decide +kernel
theorem dX11_game_24 : decode cX11_game 24 = .ok (.iload 5, 2) := by decide +kernel
theorem dX11_game_26 : decode cX11_game 26 = .ok (.ifCond .lt 9, 3) := by decide +kernel
theorem dX11_game_29 : decode cX11_game 29 = .ok (.iload 5, 2) := by decide +kernel
theorem dX11_game_31 : decode cX11_game 31 = .ok (.iconst 1, 1) := by decide +kernel
theorem dX11_game_32 : decode cX11_game 32 = .ok (.if_icmp .le 6, 3) := by decide +kernel
theorem dX11_game_35 : decode cX11_game 35 = .ok (.ldc 249, 2) := by decide +kernel
theorem dX11_game_37 : decode cX11_game 37 = .ok (.ireturn, 1) := by decide +kernel
theorem dX11_game_38 : decode cX11_game 38 = .ok (.iload 5, 2) := by decide +kernel
theorem dX11_game_40 : decode cX11_game 40 = .ok (.ifCond .ne 15, 3) := by decide +kernel
theorem dX11_game_43 : decode cX11_game 43 = .ok (.aload_n 0, 1) := by decide +kernel
theorem dX11_game_44 : decode cX11_game 44 = .ok (.iload_n 1, 1) := by decide +kernel
theorem dX11_game_45 : decode cX11_game 45 = .ok (.iload_n 3, 1) := by decide +kernel
theorem dX11_game_46 : decode cX11_game 46 = .ok (.iload_n 2, 1) := by decide +kernel
theorem dX11_game_47 : decode cX11_game 47 = .ok (.iload 4, 2) := by decide +kernel
theorem dX11_game_49 : decode cX11_game 49 = .ok (.invokevirtual 336, 3) := by decide +kernel
theorem dX11_game_52 : decode cX11_game 52 = .ok (.goto 12, 3) := by decide +kernel
theorem dX11_game_55 : decode cX11_game 55 = .ok (.aload_n 0, 1) := by decide +kernel
theorem dX11_game_56 : decode cX11_game 56 = .ok (.iload_n 2, 1) := by decide +kernel
theorem dX11_game_57 : decode cX11_game 57 = .ok (.iload 4, 2) := by decide +kernel
theorem dX11_game_59 : decode cX11_game 59 = .ok (.iload_n 1, 1) := by decide +kernel
theorem dX11_game_60 : decode cX11_game 60 = .ok (.iload_n 3, 1) := by decide +kernel
theorem dX11_game_61 : decode cX11_game 61 = .ok (.invokevirtual 336, 3) := by decide +kernel
theorem dX11_game_64 : decode cX11_game 64 = .ok (.ireturn, 1) := by decide +kernel
theorem dX11_areTwo_0 : decode cX11_areTwo 0 = .ok (.aload_n 0, 1) := by decide +kernel
theorem dX11_areTwo_1 : decode cX11_areTwo 1 = .ok (.getfield 19, 3) := by decide +kernel
theorem dX11_areTwo_4 : decode cX11_areTwo 4 = .ok (.iload_n 1, 1) := by decide +kernel
theorem dX11_areTwo_5 : decode cX11_areTwo 5 = .ok (.invokevirtual 164, 3) := by decide +kernel
theorem dX11_areTwo_8 : decode cX11_areTwo 8 = .ok (.ifCond .eq 23, 3) := by decide +kernel
theorem dX11_areTwo_11 : decode cX11_areTwo 11 = .ok (.aload_n 0, 1) := by decide +kernel
theorem dX11_areTwo_12 : decode cX11_areTwo 12 = .ok (.getfield 19, 3) := by decide +kernel
theorem dX11_areTwo_15 : decode cX11_areTwo 15 = .ok (.iload_n 2, 1) := by decide +kernel
theorem dX11_areTwo_16 : decode cX11_areTwo 16 = .ok (.invokevirtual 164, 3) := by decide +kernel
theorem dX11_areTwo_19 : decode cX11_areTwo 19 = .ok (.ifCond .eq 12, 3) := by decide +kernel
theorem dX11_areTwo_22 : decode cX11_areTwo 22 = .ok (.iload_n 1, 1) := by decide +kernel
theorem dX11_areTwo_23 : decode cX11_areTwo 23 = .ok (.iload_n 2, 1) := by decide +kernel
theorem dX11_areTwo_24 : decode cX11_areTwo 24 = .ok (.if_icmp .eq 7, 3) := by decide +kernel
theorem dX11_areTwo_27 : decode cX11_areTwo 27 = .ok (.iconst 1, 1) := by decide +kernel
theorem dX11_areTwo_28 : decode cX11_areTwo 28 = .ok (.goto 4, 3) := by decide +kernel
theorem dX11_areTwo_31 : decode cX11_areTwo 31 = .ok (.iconst 0, 1) := by decide +kernel
theorem dX11_areTwo_32 : decode cX11_areTwo 32 = .ok (.ireturn, 1) := by decide +kernel
theorem dX11_isShown_0 : decode cX11_isShown 0 = .ok (.iload_n 0, 1) := by decide +kernel
theorem dX11_isShown_1 : decode cX11_isShown 1 = .ok (.ifCond .lt 12, 3) := by decide +kernel
theorem dX11_isShown_4 : decode cX11_isShown 4 = .ok (.iload_n 0, 1) := by decide +kernel
theorem dX11_isShown_5 : decode cX11_isShown 5 = .ok (.iconst 3, 1) := by decide +kernel
theorem dX11_isShown_6 : decode cX11_isShown 6 = .ok (.if_icmp .gt 7, 3) := by decide +kernel
theorem dX11_isShown_9 : decode cX11_isShown 9 = .ok (.iconst 1, 1) := by decide +kernel
theorem dX11_isShown_10 : decode cX11_isShown 10 = .ok (.goto 4, 3) := by decide +kernel
theorem dX11_isShown_13 : decode cX11_isShown 13 = .ok (.iconst 0, 1) := by decide +kernel
theorem dX11_isShown_14 : decode cX11_isShown 14 = .ok (.ireturn, 1) := by decide +kernel
theorem dX11_has_0 : decode cX11_has 0 = .ok (.aload_n 0, 1) := by decide +kernel
theorem dX11_has_1 : decode cX11_has 1 = .ok (.iload_n 1, 1) := by decide +kernel
theorem dX11_has_2 : decode cX11_has 2 = .ok (.iload_n 2, 1) := by decide +kernel
theorem dX11_has_3 : decode cX11_has 3 = .ok (.iload_n 3, 1) := by decide +kernel
theorem dX11_has_4 : decode cX11_has 4 = .ok (.iload 4, 2) := by decide +kernel
theorem dX11_has_6 : decode cX11_has 6 = .ok (.invokevirtual 340, 3) := by decide +kernel
theorem dX11_has_9 : decode cX11_has 9 = .ok (.ifCond .ne 6, 3) := by decide +kernel
theorem dX11_has_12 : decode cX11_has 12 = .ok (.iload_n 2, 1) := by decide +kernel
theorem dX11_has_13 : decode cX11_has 13 = .ok (.ineg, 1) := by decide +kernel
theorem dX11_has_14 : decode cX11_has 14 = .ok (.ireturn, 1) := by decide +kernel
theorem dX11_has_15 : decode cX11_has 15 = .ok (.bipush 8, 2) := by decide +kernel
theorem dX11_has_17 : decode cX11_has 17 = .ok (.aload_n 0, 1) := by decide +kernel
theorem dX11_has_18 : decode cX11_has 18 = .ok (.getfield 56, 3) := by decide +kernel
theorem dX11_has_21 : decode cX11_has 21 = .ok (.iload_n 1, 1) := by decide +kernel
theorem dX11_has_22 : decode cX11_has 22 = .ok (.iload_n 2, 1) := by decide +kernel
theorem dX11_has_23 : decode cX11_has 23 = .ok (.invokevirtual 272, 3) := by decide +kernel
theorem dX11_has_26 : decode cX11_has 26 = .ok (.isub, 1) := by decide +kernel
theorem dX11_has_27 : decode cX11_has 27 = .ok (.iload_n 2, 1) := by decide +kernel
theorem dX11_has_28 : decode cX11_has 28 = .ok (.isub, 1) := by decide +kernel
theorem dX11_has_29 : decode cX11_has 29 = .ok (.ireturn, 1) := by decide +kernel
theorem dX11_comesTo_0 : decode cX11_comesTo 0 = .ok (.aload_n 0, 1) := by decide +kernel
theorem dX11_comesTo_1 : decode cX11_comesTo 1 = .ok (.getfield 19, 3) := by decide +kernel
theorem dX11_comesTo_4 : decode cX11_comesTo 4 = .ok (.iload_n 1, 1) := by decide +kernel
theorem dX11_comesTo_5 : decode cX11_comesTo 5 = .ok (.iconst 3, 1) := by decide +kernel
theorem dX11_comesTo_6 : decode cX11_comesTo 6 = .ok (.invokevirtual 180, 3) := by decide +kernel
theorem dX11_comesTo_9 : decode cX11_comesTo 9 = .ok (.iload_n 2, 1) := by decide +kernel
theorem dX11_comesTo_10 : decode cX11_comesTo 10 = .ok (.iadd, 1) := by decide +kernel
theorem dX11_comesTo_11 : decode cX11_comesTo 11 = .ok (.istore 5, 2) := by decide +kernel
theorem dX11_comesTo_13 : decode cX11_comesTo 13 = .ok (.aload_n 0, 1) := by decide +kernel
theorem dX11_comesTo_14 : decode cX11_comesTo 14 = .ok (.getfield 19, 3) := by decide +kernel
theorem dX11_comesTo_17 : decode cX11_comesTo 17 = .ok (.iload_n 3, 1) := by decide +kernel
theorem dX11_comesTo_18 : decode cX11_comesTo 18 = .ok (.iconst 3, 1) := by decide +kernel
theorem dX11_comesTo_19 : decode cX11_comesTo 19 = .ok (.invokevirtual 180, 3) := by decide +kernel
theorem dX11_comesTo_22 : decode cX11_comesTo 22 = .ok (.iload 4, 2) := by decide +kernel
theorem dX11_comesTo_24 : decode cX11_comesTo 24 = .ok (.iadd, 1) := by decide +kernel
theorem dX11_comesTo_25 : decode cX11_comesTo 25 = .ok (.istore 6, 2) := by decide +kernel
theorem dX11_comesTo_27 : decode cX11_comesTo 27 = .ok (.iload 5, 2) := by decide +kernel
theorem dX11_comesTo_29 : decode cX11_comesTo 29 = .ok (.iload 6, 2) := by decide +kernel
theorem dX11_comesTo_31 : decode cX11_comesTo 31 = .ok (.if_icmp .eq 16, 3) := by decide +kernel
theorem dX11_comesTo_34 : decode cX11_comesTo 34 = .ok (.iload 5, 2) := by decide +kernel
theorem dX11_comesTo_36 : decode cX11_comesTo 36 = .ok (.iload 6, 2) := by decide +kernel
theorem dX11_comesTo_38 : decode cX11_comesTo 38 = .ok (.if_icmp .le 7, 3) := by decide +kernel
theorem dX11_comesTo_41 : decode cX11_comesTo 41 = .ok (.iconst 1, 1) := by decide +kernel
theorem dX11_comesTo_42 : decode cX11_comesTo 42 = .ok (.goto 4, 3) := by decide +kernel
theorem dX11_comesTo_45 : decode cX11_comesTo 45 = .ok (.iconst 0, 1) := by decide +kernel
theorem dX11_comesTo_46 : decode cX11_comesTo 46 = .ok (.ireturn, 1) := by decide +kernel
theorem dX11_comesTo_47 : decode cX11_comesTo 47 = .ok (.aload_n 0, 1) := by decide +kernel
theorem dX11_comesTo_48 : decode cX11_comesTo 48 = .ok (.getfield 19, 3) := by decide +kernel
theorem dX11_comesTo_51 : decode cX11_comesTo 51 = .ok (.aload_n 0, 1) := by decide +kernel
theorem dX11_comesTo_52 : decode cX11_comesTo 52 = .ok (.getfield 56, 3) := by decide +kernel
theorem dX11_comesTo_55 : decode cX11_comesTo 55 = .ok (.invokevirtual 190, 3) := by decide +kernel
theorem dX11_comesTo_58 : decode cX11_comesTo 58 = .ok (.iload_n 1, 1) := by decide +kernel
theorem dX11_comesTo_59 : decode cX11_comesTo 59 = .ok (.invokevirtual 193, 3) := by decide +kernel
theorem dX11_comesTo_62 : decode cX11_comesTo 62 = .ok (.istore 7, 2) := by decide +kernel
theorem dX11_comesTo_64 : decode cX11_comesTo 64 = .ok (.aload_n 0, 1) := by decide +kernel
theorem dX11_comesTo_65 : decode cX11_comesTo 65 = .ok (.getfield 19, 3) := by decide +kernel
theorem dX11_comesTo_68 : decode cX11_comesTo 68 = .ok (.aload_n 0, 1) := by decide +kernel
theorem dX11_comesTo_69 : decode cX11_comesTo 69 = .ok (.getfield 56, 3) := by decide +kernel
theorem dX11_comesTo_72 : decode cX11_comesTo 72 = .ok (.invokevirtual 190, 3) := by decide +kernel
theorem dX11_comesTo_75 : decode cX11_comesTo 75 = .ok (.iload_n 3, 1) := by decide +kernel
theorem dX11_comesTo_76 : decode cX11_comesTo 76 = .ok (.invokevirtual 193, 3) := by decide +kernel
theorem dX11_comesTo_79 : decode cX11_comesTo 79 = .ok (.istore 8, 2) := by decide +kernel
theorem dX11_comesTo_81 : decode cX11_comesTo 81 = .ok (.iload 7, 2) := by decide +kernel
theorem dX11_comesTo_83 : decode cX11_comesTo 83 = .ok (.iload 8, 2) := by decide +kernel
theorem dX11_comesTo_85 : decode cX11_comesTo 85 = .ok (.if_icmp .eq 18, 3) := by decide +kernel
theorem dX11_comesTo_88 : decode cX11_comesTo 88 = .ok (.iload 7, 2) := by decide +kernel
theorem dX11_comesTo_90 : decode cX11_comesTo 90 = .ok (.iload 8, 2) := by decide +kernel
theorem dX11_comesTo_92 : decode cX11_comesTo 92 = .ok (.if_icmp .ge 7, 3) := by decide +kernel
theorem dX11_comesTo_95 : decode cX11_comesTo 95 = .ok (.iconst 1, 1) := by decide +kernel
theorem dX11_comesTo_96 : decode cX11_comesTo 96 = .ok (.goto 17, 3) := by decide +kernel
theorem dX11_comesTo_99 : decode cX11_comesTo 99 = .ok (.iconst 0, 1) := by decide +kernel
theorem dX11_comesTo_100 : decode cX11_comesTo 100 = .ok (.goto 13, 3) := by decide +kernel
theorem dX11_comesTo_103 : decode cX11_comesTo 103 = .ok (.iload_n 1, 1) := by decide +kernel
theorem dX11_comesTo_104 : decode cX11_comesTo 104 = .ok (.iload_n 3, 1) := by decide +kernel
theorem dX11_comesTo_105 : decode cX11_comesTo 105 = .ok (.if_icmp .ge 7, 3) := by decide +kernel
theorem dX11_comesTo_108 : decode cX11_comesTo 108 = .ok (.iconst 1, 1) := by decide +kernel
theorem dX11_comesTo_109 : decode cX11_comesTo 109 = .ok (.goto 4, 3) := by decide +kernel
theorem dX11_comesTo_112 : decode cX11_comesTo 112 = .ok (.iconst 0, 1) := by decide +kernel
theorem dX11_comesTo_113 : decode cX11_comesTo 113 = .ok (.ireturn, 1) := by decide +kernel
theorem dX11_rests_0 : decode cX11_rests 0 = .ok (.aload_n 0, 1) := by decide +kernel
theorem dX11_rests_1 : decode cX11_rests 1 = .ok (.iload_n 1, 1) := by decide +kernel
theorem dX11_rests_2 : decode cX11_rests 2 = .ok (.iload_n 2, 1) := by decide +kernel
theorem dX11_rests_3 : decode cX11_rests 3 = .ok (.invokevirtual 330, 3) := by decide +kernel
theorem dX11_rests_6 : decode cX11_rests 6 = .ok (.ifCond .eq 8, 3) := by decide +kernel
theorem dX11_rests_9 : decode cX11_rests 9 = .ok (.iload_n 3, 1) := by decide +kernel
theorem dX11_rests_10 : decode cX11_rests 10 = .ok (.iconst (-1), 1) := by decide +kernel
theorem dX11_rests_11 : decode cX11_rests 11 = .ok (.if_icmp .ge 5, 3) := by decide +kernel
theorem dX11_rests_14 : decode cX11_rests 14 = .ok (.iconst (-1), 1) := by decide +kernel
theorem dX11_rests_15 : decode cX11_rests 15 = .ok (.ireturn, 1) := by decide +kernel
theorem dX11_rests_16 : decode cX11_rests 16 = .ok (.iconst 0, 1) := by decide +kernel
theorem dX11_rests_17 : decode cX11_rests 17 = .ok (.istore 4, 2) := by decide +kernel
theorem dX11_rests_19 : decode cX11_rests 19 = .ok (.iconst 0, 1) := by decide +kernel
theorem dX11_rests_20 : decode cX11_rests 20 = .ok (.istore 5, 2) := by decide +kernel
theorem dX11_rests_22 : decode cX11_rests 22 = .ok (.iload 5, 2) := by decide +kernel
theorem dX11_rests_24 : decode cX11_rests 24 = .ok (.iconst 3, 1) := by decide +kernel
theorem dX11_rests_25 : decode cX11_rests 25 = .ok (.if_icmp .gt 68, 3) := by decide +kernel
theorem dX11_rests_28 : decode cX11_rests 28 = .ok (.iconst 0, 1) := by decide +kernel
theorem dX11_rests_29 : decode cX11_rests 29 = .ok (.istore 6, 2) := by decide +kernel
theorem dX11_rests_31 : decode cX11_rests 31 = .ok (.iload 6, 2) := by decide +kernel
theorem dX11_rests_33 : decode cX11_rests 33 = .ok (.iconst 3, 1) := by decide +kernel
theorem dX11_rests_34 : decode cX11_rests 34 = .ok (.if_icmp .gt 53, 3) := by decide +kernel
theorem dX11_rests_37 : decode cX11_rests 37 = .ok (.aload_n 0, 1) := by decide +kernel
theorem dX11_rests_38 : decode cX11_rests 38 = .ok (.iload_n 1, 1) := by decide +kernel
theorem dX11_rests_39 : decode cX11_rests 39 = .ok (.iload 5, 2) := by decide +kernel
theorem dX11_rests_41 : decode cX11_rests 41 = .ok (.iload_n 2, 1) := by decide +kernel
theorem dX11_rests_42 : decode cX11_rests 42 = .ok (.iload 6, 2) := by decide +kernel
theorem dX11_rests_44 : decode cX11_rests 44 = .ok (.invokevirtual 344, 3) := by decide +kernel
theorem dX11_rests_47 : decode cX11_rests 47 = .ok (.ifCond .eq 34, 3) := by decide +kernel
theorem dX11_rests_50 : decode cX11_rests 50 = .ok (.aload_n 0, 1) := by decide +kernel
theorem dX11_rests_51 : decode cX11_rests 51 = .ok (.iload_n 2, 1) := by decide +kernel
theorem dX11_rests_52 : decode cX11_rests 52 = .ok (.iload 6, 2) := by decide +kernel
theorem dX11_rests_54 : decode cX11_rests 54 = .ok (.iload_n 1, 1) := by decide +kernel
theorem dX11_rests_55 : decode cX11_rests 55 = .ok (.iload 5, 2) := by decide +kernel
theorem dX11_rests_57 : decode cX11_rests 57 = .ok (.invokevirtual 344, 3) := by decide +kernel
theorem dX11_rests_60 : decode cX11_rests 60 = .ok (.ifCond .eq 21, 3) := by decide +kernel
theorem dX11_rests_63 : decode cX11_rests 63 = .ok (.iload 4, 2) := by decide +kernel
theorem dX11_rests_65 : decode cX11_rests 65 = .ok (.iload_n 3, 1) := by decide +kernel
theorem dX11_rests_66 : decode cX11_rests 66 = .ok (.if_icmp .ne 12, 3) := by decide +kernel
theorem dX11_rests_69 : decode cX11_rests 69 = .ok (.bipush 10, 2) := by decide +kernel
theorem dX11_rests_71 : decode cX11_rests 71 = .ok (.iload 5, 2) := by decide +kernel
theorem dX11_rests_73 : decode cX11_rests 73 = .ok (.imul, 1) := by decide +kernel
theorem dX11_rests_74 : decode cX11_rests 74 = .ok (.iload 6, 2) := by decide +kernel
theorem dX11_rests_76 : decode cX11_rests 76 = .ok (.iadd, 1) := by decide +kernel
theorem dX11_rests_77 : decode cX11_rests 77 = .ok (.ireturn, 1) := by decide +kernel
theorem dX11_rests_78 : decode cX11_rests 78 = .ok (.iinc 4 1, 3) := by decide +kernel
theorem dX11_rests_81 : decode cX11_rests 81 = .ok (.iinc 6 1, 3) := by decide +kernel
theorem dX11_rests_84 : decode cX11_rests 84 = .ok (.goto (-53), 3) := by decide +kernel
theorem dX11_rests_87 : decode cX11_rests 87 = .ok (.iinc 5 1, 3) := by decide +kernel
theorem dX11_rests_90 : decode cX11_rests 90 = .ok (.goto (-68), 3) := by decide +kernel
theorem dX11_rests_93 : decode cX11_rests 93 = .ok (.iload_n 3, 1) := by decide +kernel
theorem dX11_rests_94 : decode cX11_rests 94 = .ok (.iconst (-1), 1) := by decide +kernel
theorem dX11_rests_95 : decode cX11_rests 95 = .ok (.if_icmp .ne 8, 3) := by decide +kernel
theorem dX11_rests_98 : decode cX11_rests 98 = .ok (.iload 4, 2) := by decide +kernel
theorem dX11_rests_100 : decode cX11_rests 100 = .ok (.goto 4, 3) := by decide +kernel
theorem dX11_rests_103 : decode cX11_rests 103 = .ok (.iconst (-1), 1) := by decide +kernel
theorem dX11_rests_104 : decode cX11_rests 104 = .ok (.ireturn, 1) := by decide +kernel
theorem dX11_hasNoBetter_0 : decode cX11_hasNoBetter 0 = .ok (.aload_n 0, 1) := by decide +kernel
theorem dX11_hasNoBetter_1 : decode cX11_hasNoBetter 1 = .ok (.iload_n 1, 1) := by decide +kernel
theorem dX11_hasNoBetter_2 : decode cX11_hasNoBetter 2 = .ok (.iload_n 2, 1) := by decide +kernel
theorem dX11_hasNoBetter_3 : decode cX11_hasNoBetter 3 = .ok (.iload_n 3, 1) := by decide +kernel
theorem dX11_hasNoBetter_4 : decode cX11_hasNoBetter 4 = .ok (.iload 4, 2) := by decide +kernel
theorem dX11_hasNoBetter_6 : decode cX11_hasNoBetter 6 = .ok (.invokevirtual 336, 3) := by decide +kernel
theorem dX11_hasNoBetter_9 : decode cX11_hasNoBetter 9 = .ok (.istore 5, 2) := by decide +kernel
theorem dX11_hasNoBetter_11 : decode cX11_hasNoBetter 11 = .ok (.iconst 0, 1) := by decide +kernel
theorem dX11_hasNoBetter_12 : decode cX11_hasNoBetter 12 = .ok (.istore 6, 2) := by decide +kernel
theorem dX11_hasNoBetter_14 : decode cX11_hasNoBetter 14 = .ok (.iload 6, 2) := by decide +kernel
theorem dX11_hasNoBetter_16 : decode cX11_hasNoBetter 16 = .ok (.iconst 3, 1) := by decide +kernel
theorem dX11_hasNoBetter_17 : decode cX11_hasNoBetter 17 = .ok (.if_icmp .gt 26, 3) := by decide +kernel
theorem dX11_hasNoBetter_20 : decode cX11_hasNoBetter 20 = .ok (.aload_n 0, 1) := by decide +kernel
theorem dX11_hasNoBetter_21 : decode cX11_hasNoBetter 21 = .ok (.iload_n 1, 1) := by decide +kernel
theorem dX11_hasNoBetter_22 : decode cX11_hasNoBetter 22 = .ok (.iload 6, 2) := by decide +kernel
theorem dX11_hasNoBetter_24 : decode cX11_hasNoBetter 24 = .ok (.iload_n 3, 1) := by decide +kernel
theorem dX11_hasNoBetter_25 : decode cX11_hasNoBetter 25 = .ok (.iload 4, 2) := by decide +kernel
theorem dX11_hasNoBetter_27 : decode cX11_hasNoBetter 27 = .ok (.invokevirtual 336, 3) := by decide +kernel
theorem dX11_hasNoBetter_30 : decode cX11_hasNoBetter 30 = .ok (.iload 5, 2) := by decide +kernel
theorem dX11_hasNoBetter_32 : decode cX11_hasNoBetter 32 = .ok (.if_icmp .le 5, 3) := by decide +kernel
theorem dX11_hasNoBetter_35 : decode cX11_hasNoBetter 35 = .ok (.iconst 0, 1) := by decide +kernel
theorem dX11_hasNoBetter_36 : decode cX11_hasNoBetter 36 = .ok (.ireturn, 1) := by decide +kernel
theorem dX11_hasNoBetter_37 : decode cX11_hasNoBetter 37 = .ok (.iinc 6 1, 3) := by decide +kernel
theorem dX11_hasNoBetter_40 : decode cX11_hasNoBetter 40 = .ok (.goto (-26), 3) := by decide +kernel
theorem dX11_hasNoBetter_43 : decode cX11_hasNoBetter 43 = .ok (.iconst 1, 1) := by decide +kernel
theorem dX11_hasNoBetter_44 : decode cX11_hasNoBetter 44 = .ok (.ireturn, 1) := by decide +kernel
theorem dX11_cost_0 : decode cX11_cost 0 = .ok (.aload_n 0, 1) := by decide +kernel
theorem dX11_cost_1 : decode cX11_cost 1 = .ok (.getfield 19, 3) := by decide +kernel
theorem dX11_cost_4 : decode cX11_cost 4 = .ok (.iload_n 1, 1) := by decide +kernel
theorem dX11_cost_5 : decode cX11_cost 5 = .ok (.invokevirtual 164, 3) := by decide +kernel
theorem dX11_cost_8 : decode cX11_cost 8 = .ok (.ifCond .eq 31, 3) := by decide +kernel
theorem dX11_cost_11 : decode cX11_cost 11 = .ok (.aload_n 0, 1) := by decide +kernel
theorem dX11_cost_12 : decode cX11_cost 12 = .ok (.getfield 19, 3) := by decide +kernel
theorem dX11_cost_15 : decode cX11_cost 15 = .ok (.aload_n 0, 1) := by decide +kernel
theorem dX11_cost_16 : decode cX11_cost 16 = .ok (.getfield 56, 3) := by decide +kernel
theorem dX11_cost_19 : decode cX11_cost 19 = .ok (.invokevirtual 190, 3) := by decide +kernel
theorem dX11_cost_22 : decode cX11_cost 22 = .ok (.iload_n 1, 1) := by decide +kernel
theorem dX11_cost_23 : decode cX11_cost 23 = .ok (.invokevirtual 193, 3) := by decide +kernel
theorem dX11_cost_26 : decode cX11_cost 26 = .ok (.aload_n 0, 1) := by decide +kernel
theorem dX11_cost_27 : decode cX11_cost 27 = .ok (.getfield 19, 3) := by decide +kernel
theorem dX11_cost_30 : decode cX11_cost 30 = .ok (.iconst (-1), 1) := by decide +kernel
theorem dX11_cost_31 : decode cX11_cost 31 = .ok (.iload_n 1, 1) := by decide +kernel
theorem dX11_cost_32 : decode cX11_cost 32 = .ok (.invokevirtual 193, 3) := by decide +kernel
theorem dX11_cost_35 : decode cX11_cost 35 = .ok (.iadd, 1) := by decide +kernel
theorem dX11_cost_36 : decode cX11_cost 36 = .ok (.goto 4, 3) := by decide +kernel
theorem dX11_cost_39 : decode cX11_cost 39 = .ok (.iconst (-1), 1) := by decide +kernel
theorem dX11_cost_40 : decode cX11_cost 40 = .ok (.ireturn, 1) := by decide +kernel
theorem dX11_all_0 : decode cX11_all 0 = .ok (.aload_n 0, 1) := by decide +kernel
theorem dX11_all_1 : decode cX11_all 1 = .ok (.getfield 19, 3) := by decide +kernel
theorem dX11_all_4 : decode cX11_all 4 = .ok (.invokevirtual 157, 3) := by decide +kernel
theorem dX11_all_7 : decode cX11_all 7 = .ok (.ifCond .ne 5, 3) := by decide +kernel
theorem dX11_all_10 : decode cX11_all 10 = .ok (.iconst (-1), 1) := by decide +kernel
theorem dX11_all_11 : decode cX11_all 11 = .ok (.ireturn, 1) := by decide +kernel
theorem dX11_all_12 : decode cX11_all 12 = .ok (.iload_n 1, 1) := by decide +kernel
theorem dX11_all_13 : decode cX11_all 13 = .ok (.tableswitch 111 0 9 #[55, 63, 71, 71, 71, 71, 71, 77, 85, 103], 55) := by decide +kernel
theorem dX11_all_68 : decode cX11_all 68 = .ok (.aload_n 0, 1) := by decide +kernel
theorem dX11_all_69 : decode cX11_all 69 = .ok (.getfield 56, 3) := by decide +kernel
theorem dX11_all_72 : decode cX11_all 72 = .ok (.invokevirtual 347, 3) := by decide +kernel
theorem dX11_all_75 : decode cX11_all 75 = .ok (.ireturn, 1) := by decide +kernel
theorem dX11_all_76 : decode cX11_all 76 = .ok (.aload_n 0, 1) := by decide +kernel
theorem dX11_all_77 : decode cX11_all 77 = .ok (.getfield 56, 3) := by decide +kernel
theorem dX11_all_80 : decode cX11_all 80 = .ok (.invokevirtual 350, 3) := by decide +kernel
theorem dX11_all_83 : decode cX11_all 83 = .ok (.ireturn, 1) := by decide +kernel
theorem dX11_all_84 : decode cX11_all 84 = .ok (.aload_n 0, 1) := by decide +kernel
theorem dX11_all_85 : decode cX11_all 85 = .ok (.iload_n 1, 1) := by decide +kernel
theorem dX11_all_86 : decode cX11_all 86 = .ok (.invokevirtual 353, 3) := by decide +kernel
theorem dX11_all_89 : decode cX11_all 89 = .ok (.ireturn, 1) := by decide +kernel
theorem dX11_all_90 : decode cX11_all 90 = .ok (.aload_n 0, 1) := by decide +kernel
theorem dX11_all_91 : decode cX11_all 91 = .ok (.getfield 56, 3) := by decide +kernel
theorem dX11_all_94 : decode cX11_all 94 = .ok (.invokevirtual 356, 3) := by decide +kernel
theorem dX11_all_97 : decode cX11_all 97 = .ok (.ireturn, 1) := by decide +kernel
theorem dX11_all_98 : decode cX11_all 98 = .ok (.aload_n 0, 1) := by decide +kernel
theorem dX11_all_99 : decode cX11_all 99 = .ok (.getfield 19, 3) := by decide +kernel
theorem dX11_all_102 : decode cX11_all 102 = .ok (.getfield 161, 3) := by decide +kernel
theorem dX11_all_105 : decode cX11_all 105 = .ok (.iconst 0, 1) := by decide +kernel
theorem dX11_all_106 : decode cX11_all 106 = .ok (.iaload, 1) := by decide +kernel
theorem dX11_all_107 : decode cX11_all 107 = .ok (.aload_n 0, 1) := by decide +kernel
theorem dX11_all_108 : decode cX11_all 108 = .ok (.getfield 56, 3) := by decide +kernel
theorem dX11_all_111 : decode cX11_all 111 = .ok (.invokevirtual 359, 3) := by decide +kernel
theorem dX11_all_114 : decode cX11_all 114 = .ok (.isub, 1) := by decide +kernel
theorem dX11_all_115 : decode cX11_all 115 = .ok (.ireturn, 1) := by decide +kernel
theorem dX11_all_116 : decode cX11_all 116 = .ok (.aload_n 0, 1) := by decide +kernel
theorem dX11_all_117 : decode cX11_all 117 = .ok (.getfield 19, 3) := by decide +kernel
theorem dX11_all_120 : decode cX11_all 120 = .ok (.invokevirtual 362, 3) := by decide +kernel
theorem dX11_all_123 : decode cX11_all 123 = .ok (.ireturn, 1) := by decide +kernel
theorem dX11_all_124 : decode cX11_all 124 = .ok (.iconst (-1), 1) := by decide +kernel
theorem dX11_all_125 : decode cX11_all 125 = .ok (.ireturn, 1) := by decide +kernel
theorem dX11_placeWithMost_0 : decode cX11_placeWithMost 0 = .ok (.iconst 0, 1) := by decide +kernel
theorem dX11_placeWithMost_1 : decode cX11_placeWithMost 1 = .ok (.istore_n 2, 1) := by decide +kernel
theorem dX11_placeWithMost_2 : decode cX11_placeWithMost 2 = .ok (.iconst 1, 1) := by decide +kernel
theorem dX11_placeWithMost_3 : decode cX11_placeWithMost 3 = .ok (.istore_n 3, 1) := by decide +kernel
theorem dX11_placeWithMost_4 : decode cX11_placeWithMost 4 = .ok (.iload_n 3, 1) := by decide +kernel
theorem dX11_placeWithMost_5 : decode cX11_placeWithMost 5 = .ok (.aload_n 0, 1) := by decide +kernel
theorem dX11_placeWithMost_6 : decode cX11_placeWithMost 6 = .ok (.getfield 19, 3) := by decide +kernel
theorem dX11_placeWithMost_9 : decode cX11_placeWithMost 9 = .ok (.getfield 154, 3) := by decide +kernel
theorem dX11_placeWithMost_12 : decode cX11_placeWithMost 12 = .ok (.if_icmp .ge 26, 3) := by decide +kernel
theorem dX11_placeWithMost_15 : decode cX11_placeWithMost 15 = .ok (.aload_n 0, 1) := by decide +kernel
theorem dX11_placeWithMost_16 : decode cX11_placeWithMost 16 = .ok (.iload_n 1, 1) := by decide +kernel
theorem dX11_placeWithMost_17 : decode cX11_placeWithMost 17 = .ok (.iload_n 3, 1) := by decide +kernel
theorem dX11_placeWithMost_18 : decode cX11_placeWithMost 18 = .ok (.invokevirtual 365, 3) := by decide +kernel
theorem dX11_placeWithMost_21 : decode cX11_placeWithMost 21 = .ok (.aload_n 0, 1) := by decide +kernel
theorem dX11_placeWithMost_22 : decode cX11_placeWithMost 22 = .ok (.iload_n 1, 1) := by decide +kernel
theorem dX11_placeWithMost_23 : decode cX11_placeWithMost 23 = .ok (.iload_n 2, 1) := by decide +kernel
theorem dX11_placeWithMost_24 : decode cX11_placeWithMost 24 = .ok (.invokevirtual 365, 3) := by decide +kernel
theorem dX11_placeWithMost_27 : decode cX11_placeWithMost 27 = .ok (.if_icmp .le 5, 3) := by decide +kernel
theorem dX11_placeWithMost_30 : decode cX11_placeWithMost 30 = .ok (.iload_n 3, 1) := by decide +kernel
theorem dX11_placeWithMost_31 : decode cX11_placeWithMost 31 = .ok (.istore_n 2, 1) := by decide +kernel
theorem dX11_placeWithMost_32 : decode cX11_placeWithMost 32 = .ok (.iinc 3 1, 3) := by decide +kernel
theorem dX11_placeWithMost_35 : decode cX11_placeWithMost 35 = .ok (.goto (-31), 3) := by decide +kernel
theorem dX11_placeWithMost_38 : decode cX11_placeWithMost 38 = .ok (.iload_n 2, 1) := by decide +kernel
theorem dX11_placeWithMost_39 : decode cX11_placeWithMost 39 = .ok (.ireturn, 1) := by decide +kernel
theorem dX11_merit_0 : decode cX11_merit 0 = .ok (.iload_n 1, 1) := by decide +kernel
theorem dX11_merit_1 : decode cX11_merit 1 = .ok (.tableswitch 78 2 5 #[31, 49, 58, 68], 31) := by decide +kernel
theorem dX11_merit_32 : decode cX11_merit 32 = .ok (.aload_n 0, 1) := by decide +kernel
theorem dX11_merit_33 : decode cX11_merit 33 = .ok (.getfield 56, 3) := by decide +kernel
theorem dX11_merit_36 : decode cX11_merit 36 = .ok (.iload_n 2, 1) := by decide +kernel
theorem dX11_merit_37 : decode cX11_merit 37 = .ok (.invokevirtual 171, 3) := by decide +kernel
theorem dX11_merit_40 : decode cX11_merit 40 = .ok (.aload_n 0, 1) := by decide +kernel
theorem dX11_merit_41 : decode cX11_merit 41 = .ok (.getfield 56, 3) := by decide +kernel
theorem dX11_merit_44 : decode cX11_merit 44 = .ok (.iload_n 2, 1) := by decide +kernel
theorem dX11_merit_45 : decode cX11_merit 45 = .ok (.invokevirtual 174, 3) := by decide +kernel
theorem dX11_merit_48 : decode cX11_merit 48 = .ok (.isub, 1) := by decide +kernel
theorem dX11_merit_49 : decode cX11_merit 49 = .ok (.ireturn, 1) := by decide +kernel
theorem dX11_merit_50 : decode cX11_merit 50 = .ok (.aload_n 0, 1) := by decide +kernel
theorem dX11_merit_51 : decode cX11_merit 51 = .ok (.getfield 56, 3) := by decide +kernel
theorem dX11_merit_54 : decode cX11_merit 54 = .ok (.iload_n 2, 1) := by decide +kernel
theorem dX11_merit_55 : decode cX11_merit 55 = .ok (.invokevirtual 174, 3) := by decide +kernel
theorem dX11_merit_58 : decode cX11_merit 58 = .ok (.ireturn, 1) := by decide +kernel
theorem dX11_merit_59 : decode cX11_merit 59 = .ok (.aload_n 0, 1) := by decide +kernel
theorem dX11_merit_60 : decode cX11_merit 60 = .ok (.getfield 19, 3) := by decide +kernel
theorem dX11_merit_63 : decode cX11_merit 63 = .ok (.iload_n 2, 1) := by decide +kernel
theorem dX11_merit_64 : decode cX11_merit 64 = .ok (.iconst 3, 1) := by decide +kernel
theorem dX11_merit_65 : decode cX11_merit 65 = .ok (.invokevirtual 180, 3) := by decide +kernel
theorem dX11_merit_68 : decode cX11_merit 68 = .ok (.ireturn, 1) := by decide +kernel
theorem dX11_merit_69 : decode cX11_merit 69 = .ok (.aload_n 0, 1) := by decide +kernel
theorem dX11_merit_70 : decode cX11_merit 70 = .ok (.getfield 19, 3) := by decide +kernel
theorem dX11_merit_73 : decode cX11_merit 73 = .ok (.iconst (-1), 1) := by decide +kernel
theorem dX11_merit_74 : decode cX11_merit 74 = .ok (.iload_n 2, 1) := by decide +kernel
theorem dX11_merit_75 : decode cX11_merit 75 = .ok (.invokevirtual 193, 3) := by decide +kernel
theorem dX11_merit_78 : decode cX11_merit 78 = .ok (.ireturn, 1) := by decide +kernel
theorem dX11_merit_79 : decode cX11_merit 79 = .ok (.iload_n 2, 1) := by decide +kernel
theorem dX11_merit_80 : decode cX11_merit 80 = .ok (.aload_n 0, 1) := by decide +kernel
theorem dX11_merit_81 : decode cX11_merit 81 = .ok (.getfield 56, 3) := by decide +kernel
theorem dX11_merit_84 : decode cX11_merit 84 = .ok (.invokevirtual 190, 3) := by decide +kernel
theorem dX11_merit_87 : decode cX11_merit 87 = .ok (.if_icmp .ne 8, 3) := by decide +kernel
theorem dX11_merit_90 : decode cX11_merit 90 = .ok (.bipush (-100), 2) := by decide +kernel
theorem dX11_merit_92 : decode cX11_merit 92 = .ok (.goto 19, 3) := by decide +kernel
theorem dX11_merit_95 : decode cX11_merit 95 = .ok (.aload_n 0, 1) := by decide +kernel
theorem dX11_merit_96 : decode cX11_merit 96 = .ok (.getfield 19, 3) := by decide +kernel
theorem dX11_merit_99 : decode cX11_merit 99 = .ok (.aload_n 0, 1) := by decide +kernel
theorem dX11_merit_100 : decode cX11_merit 100 = .ok (.getfield 56, 3) := by decide +kernel
theorem dX11_merit_103 : decode cX11_merit 103 = .ok (.invokevirtual 190, 3) := by decide +kernel
theorem dX11_merit_106 : decode cX11_merit 106 = .ok (.iload_n 2, 1) := by decide +kernel
theorem dX11_merit_107 : decode cX11_merit 107 = .ok (.invokevirtual 193, 3) := by decide +kernel
theorem dX11_merit_110 : decode cX11_merit 110 = .ok (.ineg, 1) := by decide +kernel
theorem dX11_merit_111 : decode cX11_merit 111 = .ok (.ireturn, 1) := by decide +kernel
theorem dX11_kinds_0 : decode cX11_kinds 0 = .ok (.aload_n 0, 1) := by decide +kernel
theorem dX11_kinds_1 : decode cX11_kinds 1 = .ok (.getfield 19, 3) := by decide +kernel
theorem dX11_kinds_4 : decode cX11_kinds 4 = .ok (.invokevirtual 157, 3) := by decide +kernel
theorem dX11_kinds_7 : decode cX11_kinds 7 = .ok (.ifCond .eq 23, 3) := by decide +kernel
theorem dX11_kinds_10 : decode cX11_kinds 10 = .ok (.iload_n 1, 1) := by decide +kernel
theorem dX11_kinds_11 : decode cX11_kinds 11 = .ok (.ifCond .lt 19, 3) := by decide +kernel
theorem dX11_kinds_14 : decode cX11_kinds 14 = .ok (.iload_n 1, 1) := by decide +kernel
theorem dX11_kinds_15 : decode cX11_kinds 15 = .ok (.iconst 4, 1) := by decide +kernel
theorem dX11_kinds_16 : decode cX11_kinds 16 = .ok (.if_icmp .ge 14, 3) := by decide +kernel
theorem dX11_kinds_19 : decode cX11_kinds 19 = .ok (.aload_n 0, 1) := by decide +kernel
theorem dX11_kinds_20 : decode cX11_kinds 20 = .ok (.getfield 19, 3) := by decide +kernel
theorem dX11_kinds_23 : decode cX11_kinds 23 = .ok (.iload_n 1, 1) := by decide +kernel
theorem dX11_kinds_24 : decode cX11_kinds 24 = .ok (.invokevirtual 368, 3) := by decide +kernel
theorem dX11_kinds_27 : decode cX11_kinds 27 = .ok (.goto 4, 3) := by decide +kernel
theorem dX11_kinds_30 : decode cX11_kinds 30 = .ok (.iconst (-1), 1) := by decide +kernel
theorem dX11_kinds_31 : decode cX11_kinds 31 = .ok (.ireturn, 1) := by decide +kernel
theorem dX11_calm_0 : decode cX11_calm 0 = .ok (.aload_n 0, 1) := by decide +kernel
theorem dX11_calm_1 : decode cX11_calm 1 = .ok (.getfield 19, 3) := by decide +kernel
theorem dX11_calm_4 : decode cX11_calm 4 = .ok (.iload_n 1, 1) := by decide +kernel
theorem dX11_calm_5 : decode cX11_calm 5 = .ok (.invokevirtual 164, 3) := by decide +kernel
theorem dX11_calm_8 : decode cX11_calm 8 = .ok (.ifCond .ne 5, 3) := by decide +kernel
theorem dX11_calm_11 : decode cX11_calm 11 = .ok (.iconst (-1), 1) := by decide +kernel
theorem dX11_calm_12 : decode cX11_calm 12 = .ok (.ireturn, 1) := by decide +kernel
theorem dX11_calm_13 : decode cX11_calm 13 = .ok (.iconst 0, 1) := by decide +kernel
theorem dX11_calm_14 : decode cX11_calm 14 = .ok (.istore_n 2, 1) := by decide +kernel
theorem dX11_calm_15 : decode cX11_calm 15 = .ok (.iload_n 2, 1) := by decide +kernel
theorem dX11_calm_16 : decode cX11_calm 16 = .ok (.bipush 60, 2) := by decide +kernel
theorem dX11_calm_18 : decode cX11_calm 18 = .ok (.if_icmp .gt 42, 3) := by decide +kernel
theorem dX11_calm_21 : decode cX11_calm 21 = .ok (.aload_n 0, 1) := by decide +kernel
theorem dX11_calm_22 : decode cX11_calm 22 = .ok (.getfield 56, 3) := by decide +kernel
theorem dX11_calm_25 : decode cX11_calm 25 = .ok (.iload_n 1, 1) := by decide +kernel
theorem dX11_calm_26 : decode cX11_calm 26 = .ok (.invokevirtual 174, 3) := by decide +kernel
theorem dX11_calm_29 : decode cX11_calm 29 = .ok (.iload_n 2, 1) := by decide +kernel
theorem dX11_calm_30 : decode cX11_calm 30 = .ok (.aload_n 0, 1) := by decide +kernel
theorem dX11_calm_31 : decode cX11_calm 31 = .ok (.getfield 19, 3) := by decide +kernel
theorem dX11_calm_34 : decode cX11_calm 34 = .ok (.getfield 161, 3) := by decide +kernel
theorem dX11_calm_37 : decode cX11_calm 37 = .ok (.iconst 2, 1) := by decide +kernel
theorem dX11_calm_38 : decode cX11_calm 38 = .ok (.iaload, 1) := by decide +kernel
theorem dX11_calm_39 : decode cX11_calm 39 = .ok (.imul, 1) := by decide +kernel
theorem dX11_calm_40 : decode cX11_calm 40 = .ok (.isub, 1) := by decide +kernel
theorem dX11_calm_41 : decode cX11_calm 41 = .ok (.aload_n 0, 1) := by decide +kernel
theorem dX11_calm_42 : decode cX11_calm 42 = .ok (.getfield 56, 3) := by decide +kernel
theorem dX11_calm_45 : decode cX11_calm 45 = .ok (.iload_n 1, 1) := by decide +kernel
theorem dX11_calm_46 : decode cX11_calm 46 = .ok (.invokevirtual 171, 3) := by decide +kernel
theorem dX11_calm_49 : decode cX11_calm 49 = .ok (.if_icmp .gt 5, 3) := by decide +kernel
theorem dX11_calm_52 : decode cX11_calm 52 = .ok (.iload_n 2, 1) := by decide +kernel
theorem dX11_calm_53 : decode cX11_calm 53 = .ok (.ireturn, 1) := by decide +kernel
theorem dX11_calm_54 : decode cX11_calm 54 = .ok (.iinc 2 1, 3) := by decide +kernel
theorem dX11_calm_57 : decode cX11_calm 57 = .ok (.goto (-42), 3) := by decide +kernel
theorem dX11_calm_60 : decode cX11_calm 60 = .ok (.iconst (-1), 1) := by decide +kernel
theorem dX11_calm_61 : decode cX11_calm 61 = .ok (.ireturn, 1) := by decide +kernel
theorem dX11_image_0 : decode cX11_image 0 = .ok (.aload_n 0, 1) := by decide +kernel
theorem dX11_image_1 : decode cX11_image 1 = .ok (.getfield 19, 3) := by decide +kernel
theorem dX11_image_4 : decode cX11_image 4 = .ok (.invokevirtual 157, 3) := by decide +kernel
theorem dX11_image_7 : decode cX11_image 7 = .ok (.ifCond .ne 5, 3) := by decide +kernel
theorem dX11_image_10 : decode cX11_image 10 = .ok (.iconst (-1), 1) := by decide +kernel
theorem dX11_image_11 : decode cX11_image 11 = .ok (.ireturn, 1) := by decide +kernel
theorem dX11_image_12 : decode cX11_image 12 = .ok (.aload_n 0, 1) := by decide +kernel
theorem dX11_image_13 : decode cX11_image 13 = .ok (.getfield 56, 3) := by decide +kernel
theorem dX11_image_16 : decode cX11_image 16 = .ok (.aload_n 0, 1) := by decide +kernel
theorem dX11_image_17 : decode cX11_image 17 = .ok (.getfield 77, 3) := by decide +kernel
theorem dX11_image_20 : decode cX11_image 20 = .ok (.iconst 0, 1) := by decide +kernel
theorem dX11_image_21 : decode cX11_image 21 = .ok (.invokevirtual 371, 3) := by decide +kernel
theorem dX11_image_24 : decode cX11_image 24 = .ok (.aload_n 0, 1) := by decide +kernel
theorem dX11_image_25 : decode cX11_image 25 = .ok (.getfield 81, 3) := by decide +kernel
theorem dX11_image_28 : decode cX11_image 28 = .ok (.aload_n 0, 1) := by decide +kernel
theorem dX11_image_29 : decode cX11_image 29 = .ok (.getfield 73, 3) := by decide +kernel
theorem dX11_image_32 : decode cX11_image 32 = .ok (.invokevirtual 374, 3) := by decide +kernel
theorem dX11_image_35 : decode cX11_image 35 = .ok (.aload_n 0, 1) := by decide +kernel
theorem dX11_image_36 : decode cX11_image 36 = .ok (.iconst 1, 1) := by decide +kernel
theorem dX11_image_37 : decode cX11_image 37 = .ok (.putfield 150, 3) := by decide +kernel
theorem dX11_image_40 : decode cX11_image 40 = .ok (.aload_n 0, 1) := by decide +kernel
theorem dX11_image_41 : decode cX11_image 41 = .ok (.getfield 56, 3) := by decide +kernel
theorem dX11_image_44 : decode cX11_image 44 = .ok (.invokevirtual 239, 3) := by decide +kernel
theorem dX11_image_47 : decode cX11_image 47 = .ok (.ireturn, 1) := by decide +kernel
theorem dX11_back_0 : decode cX11_back 0 = .ok (.aload_n 0, 1) := by decide +kernel
theorem dX11_back_1 : decode cX11_back 1 = .ok (.getfield 150, 3) := by decide +kernel
theorem dX11_back_4 : decode cX11_back 4 = .ok (.ifCond .ne 5, 3) := by decide +kernel
theorem dX11_back_7 : decode cX11_back 7 = .ok (.iconst (-1), 1) := by decide +kernel
theorem dX11_back_8 : decode cX11_back 8 = .ok (.ireturn, 1) := by decide +kernel
theorem dX11_back_9 : decode cX11_back 9 = .ok (.aload_n 0, 1) := by decide +kernel
theorem dX11_back_10 : decode cX11_back 10 = .ok (.getfield 56, 3) := by decide +kernel
theorem dX11_back_13 : decode cX11_back 13 = .ok (.aload_n 0, 1) := by decide +kernel
theorem dX11_back_14 : decode cX11_back 14 = .ok (.getfield 77, 3) := by decide +kernel
theorem dX11_back_17 : decode cX11_back 17 = .ok (.iconst 0, 1) := by decide +kernel
theorem dX11_back_18 : decode cX11_back 18 = .ok (.invokevirtual 262, 3) := by decide +kernel
theorem dX11_back_21 : decode cX11_back 21 = .ok (.aload_n 0, 1) := by decide +kernel
theorem dX11_back_22 : decode cX11_back 22 = .ok (.getfield 73, 3) := by decide +kernel
theorem dX11_back_25 : decode cX11_back 25 = .ok (.aload_n 0, 1) := by decide +kernel
theorem dX11_back_26 : decode cX11_back 26 = .ok (.getfield 81, 3) := by decide +kernel
theorem dX11_back_29 : decode cX11_back 29 = .ok (.invokevirtual 374, 3) := by decide +kernel
theorem dX11_back_32 : decode cX11_back 32 = .ok (.aload_n 0, 1) := by decide +kernel
theorem dX11_back_33 : decode cX11_back 33 = .ok (.getfield 66, 3) := by decide +kernel
theorem dX11_back_36 : decode cX11_back 36 = .ok (.invokevirtual 146, 3) := by decide +kernel
theorem dX11_back_39 : decode cX11_back 39 = .ok (.aload_n 0, 1) := by decide +kernel
theorem dX11_back_40 : decode cX11_back 40 = .ok (.getfield 56, 3) := by decide +kernel
theorem dX11_back_43 : decode cX11_back 43 = .ok (.invokevirtual 239, 3) := by decide +kernel
theorem dX11_back_46 : decode cX11_back 46 = .ok (.ireturn, 1) := by decide +kernel
theorem dX11_count_0 : decode cX11_count 0 = .ok (.iload_n 1, 1) := by decide +kernel
theorem dX11_count_1 : decode cX11_count 1 = .ok (.tableswitch 195 0 14 #[75, 83, 91, 99, 107, 115, 123, 131, 139, 147, 155, 163, 168, 176, 187], 75) := by decide +kernel
theorem dX11_count_76 : decode cX11_count 76 = .ok (.aload_n 0, 1) := by decide +kernel
theorem dX11_count_77 : decode cX11_count 77 = .ok (.getfield 19, 3) := by decide +kernel
theorem dX11_count_80 : decode cX11_count 80 = .ok (.getfield 154, 3) := by decide +kernel
theorem dX11_count_83 : decode cX11_count 83 = .ok (.ireturn, 1) := by decide +kernel
theorem dX11_count_84 : decode cX11_count 84 = .ok (.aload_n 0, 1) := by decide +kernel
theorem dX11_count_85 : decode cX11_count 85 = .ok (.getfield 40, 3) := by decide +kernel
theorem dX11_count_88 : decode cX11_count 88 = .ok (.getfield 184, 3) := by decide +kernel
theorem dX11_count_91 : decode cX11_count 91 = .ok (.ireturn, 1) := by decide +kernel
theorem dX11_count_92 : decode cX11_count 92 = .ok (.aload_n 0, 1) := by decide +kernel
theorem dX11_count_93 : decode cX11_count 93 = .ok (.getfield 47, 3) := by decide +kernel
theorem dX11_count_96 : decode cX11_count 96 = .ok (.getfield 377, 3) := by decide +kernel
theorem dX11_count_99 : decode cX11_count 99 = .ok (.ireturn, 1) := by decide +kernel
theorem dX11_count_100 : decode cX11_count 100 = .ok (.aload_n 0, 1) := by decide +kernel
theorem dX11_count_101 : decode cX11_count 101 = .ok (.getfield 10, 3) := by decide +kernel
theorem dX11_count_104 : decode cX11_count 104 = .ok (.getfield 117, 3) := by decide +kernel
theorem dX11_count_107 : decode cX11_count 107 = .ok (.ireturn, 1) := by decide +kernel
theorem dX11_count_108 : decode cX11_count 108 = .ok (.aload_n 0, 1) := by decide +kernel
theorem dX11_count_109 : decode cX11_count 109 = .ok (.getfield 40, 3) := by decide +kernel
theorem dX11_count_112 : decode cX11_count 112 = .ok (.getfield 187, 3) := by decide +kernel
theorem dX11_count_115 : decode cX11_count 115 = .ok (.ireturn, 1) := by decide +kernel
theorem dX11_count_116 : decode cX11_count 116 = .ok (.aload_n 0, 1) := by decide +kernel
theorem dX11_count_117 : decode cX11_count 117 = .ok (.getfield 56, 3) := by decide +kernel
theorem dX11_count_120 : decode cX11_count 120 = .ok (.invokevirtual 239, 3) := by decide +kernel
theorem dX11_count_123 : decode cX11_count 123 = .ok (.ireturn, 1) := by decide +kernel
theorem dX11_count_124 : decode cX11_count 124 = .ok (.aload_n 0, 1) := by decide +kernel
theorem dX11_count_125 : decode cX11_count 125 = .ok (.getfield 56, 3) := by decide +kernel
theorem dX11_count_128 : decode cX11_count 128 = .ok (.invokevirtual 378, 3) := by decide +kernel
theorem dX11_count_131 : decode cX11_count 131 = .ok (.ireturn, 1) := by decide +kernel
theorem dX11_count_132 : decode cX11_count 132 = .ok (.aload_n 0, 1) := by decide +kernel
theorem dX11_count_133 : decode cX11_count 133 = .ok (.getfield 56, 3) := by decide +kernel
theorem dX11_count_136 : decode cX11_count 136 = .ok (.invokevirtual 359, 3) := by decide +kernel
theorem dX11_count_139 : decode cX11_count 139 = .ok (.ireturn, 1) := by decide +kernel
theorem dX11_count_140 : decode cX11_count 140 = .ok (.aload_n 0, 1) := by decide +kernel
theorem dX11_count_141 : decode cX11_count 141 = .ok (.getfield 56, 3) := by decide +kernel
theorem dX11_count_144 : decode cX11_count 144 = .ok (.invokevirtual 190, 3) := by decide +kernel
theorem dX11_count_147 : decode cX11_count 147 = .ok (.ireturn, 1) := by decide +kernel
theorem dX11_count_148 : decode cX11_count 148 = .ok (.aload_n 0, 1) := by decide +kernel
theorem dX11_count_149 : decode cX11_count 149 = .ok (.getfield 56, 3) := by decide +kernel
theorem dX11_count_152 : decode cX11_count 152 = .ok (.invokevirtual 381, 3) := by decide +kernel
theorem dX11_count_155 : decode cX11_count 155 = .ok (.ireturn, 1) := by decide +kernel
theorem dX11_count_156 : decode cX11_count 156 = .ok (.aload_n 0, 1) := by decide +kernel
theorem dX11_count_157 : decode cX11_count 157 = .ok (.getfield 56, 3) := by decide +kernel
theorem dX11_count_160 : decode cX11_count 160 = .ok (.invokevirtual 269, 3) := by decide +kernel
theorem dX11_count_163 : decode cX11_count 163 = .ok (.ireturn, 1) := by decide +kernel
theorem dX11_count_164 : decode cX11_count 164 = .ok (.aload_n 0, 1) := by decide +kernel
theorem dX11_count_165 : decode cX11_count 165 = .ok (.getfield 109, 3) := by decide +kernel
theorem dX11_count_168 : decode cX11_count 168 = .ok (.ireturn, 1) := by decide +kernel
theorem dX11_count_169 : decode cX11_count 169 = .ok (.aload_n 0, 1) := by decide +kernel
theorem dX11_count_170 : decode cX11_count 170 = .ok (.getfield 89, 3) := by decide +kernel
theorem dX11_count_173 : decode cX11_count 173 = .ok (.getfield 384, 3) := by decide +kernel
theorem dX11_count_176 : decode cX11_count 176 = .ok (.ireturn, 1) := by decide +kernel
theorem dX11_count_177 : decode cX11_count 177 = .ok (.aload_n 0, 1) := by decide +kernel
theorem dX11_count_178 : decode cX11_count 178 = .ok (.getfield 56, 3) := by decide +kernel
theorem dX11_count_181 : decode cX11_count 181 = .ok (.invokevirtual 239, 3) := by decide +kernel
theorem dX11_count_184 : decode cX11_count 184 = .ok (.invokestatic 387, 3) := by decide +kernel
theorem dX11_count_187 : decode cX11_count 187 = .ok (.ireturn, 1) := by decide +kernel
theorem dX11_count_188 : decode cX11_count 188 = .ok (.aload_n 0, 1) := by decide +kernel
theorem dX11_count_189 : decode cX11_count 189 = .ok (.getfield 66, 3) := by decide +kernel
theorem dX11_count_192 : decode cX11_count 192 = .ok (.getfield 390, 3) := by decide +kernel
theorem dX11_count_195 : decode cX11_count 195 = .ok (.ireturn, 1) := by decide +kernel
theorem dX11_count_196 : decode cX11_count 196 = .ok (.ldc 249, 2) := by decide +kernel
theorem dX11_count_198 : decode cX11_count 198 = .ok (.ireturn, 1) := by decide +kernel
theorem dX11_held_0 : decode cX11_held 0 = .ok (.lload_n 2, 1) := by decide +kernel
theorem dX11_held_1 : decode cX11_held 1 = .ok (.iload_n 0, 1) := by decide +kernel
theorem dX11_held_2 : decode cX11_held 2 = .ok (.i2l, 1) := by decide +kernel
theorem dX11_held_3 : decode cX11_held 3 = .ok (.lcmp, 1) := by decide +kernel
theorem dX11_held_4 : decode cX11_held 4 = .ok (.ifCond .ge 7, 3) := by decide +kernel
theorem dX11_held_7 : decode cX11_held 7 = .ok (.iload_n 0, 1) := by decide +kernel
theorem dX11_held_8 : decode cX11_held 8 = .ok (.goto 16, 3) := by decide +kernel
theorem dX11_held_11 : decode cX11_held 11 = .ok (.lload_n 2, 1) := by decide +kernel
theorem dX11_held_12 : decode cX11_held 12 = .ok (.iload_n 1, 1) := by decide +kernel
theorem dX11_held_13 : decode cX11_held 13 = .ok (.i2l, 1) := by decide +kernel
theorem dX11_held_14 : decode cX11_held 14 = .ok (.lcmp, 1) := by decide +kernel
theorem dX11_held_15 : decode cX11_held 15 = .ok (.ifCond .le 7, 3) := by decide +kernel
theorem dX11_held_18 : decode cX11_held 18 = .ok (.iload_n 1, 1) := by decide +kernel
theorem dX11_held_19 : decode cX11_held 19 = .ok (.goto 5, 3) := by decide +kernel
theorem dX11_held_22 : decode cX11_held 22 = .ok (.lload_n 2, 1) := by decide +kernel
theorem dX11_held_23 : decode cX11_held 23 = .ok (.l2i, 1) := by decide +kernel
theorem dX11_held_24 : decode cX11_held 24 = .ok (.ireturn, 1) := by decide +kernel
theorem dX11_placeIn_0 : decode cX11_placeIn 0 = .ok (.iconst 0, 1) := by decide +kernel
theorem dX11_placeIn_1 : decode cX11_placeIn 1 = .ok (.istore_n 2, 1) := by decide +kernel
theorem dX11_placeIn_2 : decode cX11_placeIn 2 = .ok (.iload_n 2, 1) := by decide +kernel
theorem dX11_placeIn_3 : decode cX11_placeIn 3 = .ok (.aload_n 0, 1) := by decide +kernel
theorem dX11_placeIn_4 : decode cX11_placeIn 4 = .ok (.invokevirtual 391, 3) := by decide +kernel
theorem dX11_placeIn_7 : decode cX11_placeIn 7 = .ok (.if_icmp .ge 20, 3) := by decide +kernel
theorem dX11_placeIn_10 : decode cX11_placeIn 10 = .ok (.aload_n 0, 1) := by decide +kernel
theorem dX11_placeIn_11 : decode cX11_placeIn 11 = .ok (.iload_n 2, 1) := by decide +kernel
theorem dX11_placeIn_12 : decode cX11_placeIn 12 = .ok (.invokevirtual 395, 3) := by decide +kernel
theorem dX11_placeIn_15 : decode cX11_placeIn 15 = .ok (.iload_n 1, 1) := by decide +kernel
theorem dX11_placeIn_16 : decode cX11_placeIn 16 = .ok (.if_icmp .ne 5, 3) := by decide +kernel
theorem dX11_placeIn_19 : decode cX11_placeIn 19 = .ok (.iload_n 2, 1) := by decide +kernel
theorem dX11_placeIn_20 : decode cX11_placeIn 20 = .ok (.ireturn, 1) := by decide +kernel
theorem dX11_placeIn_21 : decode cX11_placeIn 21 = .ok (.iinc 2 1, 3) := by decide +kernel
theorem dX11_placeIn_24 : decode cX11_placeIn 24 = .ok (.goto (-22), 3) := by decide +kernel
theorem dX11_placeIn_27 : decode cX11_placeIn 27 = .ok (.iconst (-1), 1) := by decide +kernel
theorem dX11_placeIn_28 : decode cX11_placeIn 28 = .ok (.ireturn, 1) := by decide +kernel
theorem dX11_isIn_0 : decode cX11_isIn 0 = .ok (.iload_n 0, 1) := by decide +kernel
theorem dX11_isIn_1 : decode cX11_isIn 1 = .ok (.iload_n 1, 1) := by decide +kernel
theorem dX11_isIn_2 : decode cX11_isIn 2 = .ok (.ishr, 1) := by decide +kernel
theorem dX11_isIn_3 : decode cX11_isIn 3 = .ok (.iconst 1, 1) := by decide +kernel
theorem dX11_isIn_4 : decode cX11_isIn 4 = .ok (.iand, 1) := by decide +kernel
theorem dX11_isIn_5 : decode cX11_isIn 5 = .ok (.ifCond .eq 7, 3) := by decide +kernel
theorem dX11_isIn_8 : decode cX11_isIn 8 = .ok (.iconst 1, 1) := by decide +kernel
theorem dX11_isIn_9 : decode cX11_isIn 9 = .ok (.goto 4, 3) := by decide +kernel
theorem dX11_isIn_12 : decode cX11_isIn 12 = .ok (.iconst 0, 1) := by decide +kernel
theorem dX11_isIn_13 : decode cX11_isIn 13 = .ok (.ireturn, 1) := by decide +kernel
theorem dX12_init_0 : decode cX12_init 0 = .ok (.aload_n 0, 1) := by decide +kernel
theorem dX12_init_1 : decode cX12_init 1 = .ok (.invokespecial 3, 3) := by decide +kernel
theorem dX12_init_4 : decode cX12_init 4 = .ok (.aload_n 0, 1) := by decide +kernel
theorem dX12_init_5 : decode cX12_init 5 = .ok (.sipush 240, 3) := by decide +kernel
theorem dX12_init_8 : decode cX12_init 8 = .ok (.newarray .byte, 2) := by decide +kernel
theorem dX12_init_10 : decode cX12_init 10 = .ok (.putfield 9, 3) := by decide +kernel
theorem dX12_init_13 : decode cX12_init 13 = .ok (.aload_n 0, 1) := by decide +kernel
theorem dX12_init_14 : decode cX12_init 14 = .ok (.sipush 960, 3) := by decide +kernel
theorem dX12_init_17 : decode cX12_init 17 = .ok (.newarray .byte, 2) := by decide +kernel
theorem dX12_init_19 : decode cX12_init 19 = .ok (.putfield 13, 3) := by decide +kernel
theorem dX12_init_22 : decode cX12_init 22 = .ok (.aload_n 0, 1) := by decide +kernel
theorem dX12_init_23 : decode cX12_init 23 = .ok (.iconst 4, 1) := by decide +kernel
theorem dX12_init_24 : decode cX12_init 24 = .ok (.newarray .int, 2) := by decide +kernel
theorem dX12_init_26 : decode cX12_init 26 = .ok (.putfield 16, 3) := by decide +kernel
theorem dX12_init_29 : decode cX12_init 29 = .ok (.aload_n 0, 1) := by decide +kernel
theorem dX12_init_30 : decode cX12_init 30 = .ok (.sipush 128, 3) := by decide +kernel
theorem dX12_init_33 : decode cX12_init 33 = .ok (.newarray .int, 2) := by decide +kernel
theorem dX12_init_35 : decode cX12_init 35 = .ok (.putfield 20, 3) := by decide +kernel
theorem dX12_init_38 : decode cX12_init 38 = .ok (.aload_n 0, 1) := by decide +kernel
theorem dX12_init_39 : decode cX12_init 39 = .ok (.aload_n 0, 1) := by decide +kernel
theorem dX12_init_40 : decode cX12_init 40 = .ok (.getfield 9, 3) := by decide +kernel
theorem dX12_init_43 : decode cX12_init 43 = .ok (.putfield 23, 3) := by decide +kernel
theorem dX12_init_46 : decode cX12_init 46 = .ok (.aload_n 0, 1) := by decide +kernel
theorem dX12_init_47 : decode cX12_init 47 = .ok (.ldc 26, 2) := by decide +kernel
theorem dX12_init_49 : decode cX12_init 49 = .ok (.putfield 28, 3) := by decide +kernel
theorem dX12_init_52 : decode cX12_init 52 = .ok (.aload_n 0, 1) := by decide +kernel
theorem dX12_init_53 : decode cX12_init 53 = .ok (.ldc 32, 2) := by decide +kernel
theorem dX12_init_55 : decode cX12_init 55 = .ok (.putfield 34, 3) := by decide +kernel
theorem dX12_init_58 : decode cX12_init 58 = .ok (.aload_n 0, 1) := by decide +kernel
theorem dX12_init_59 : decode cX12_init 59 = .ok (.iconst 3, 1) := by decide +kernel
theorem dX12_init_60 : decode cX12_init 60 = .ok (.newarray .int, 2) := by decide +kernel
theorem dX12_init_62 : decode cX12_init 62 = .ok (.putfield 37, 3) := by decide +kernel
theorem dX12_init_65 : decode cX12_init 65 = .ok (.aload_n 0, 1) := by decide +kernel
theorem dX12_init_66 : decode cX12_init 66 = .ok (.iconst 3, 1) := by decide +kernel
theorem dX12_init_67 : decode cX12_init 67 = .ok (.newarray .int, 2) := by decide +kernel
theorem dX12_init_69 : decode cX12_init 69 = .ok (.putfield 40, 3) := by decide +kernel
theorem dX12_init_72 : decode cX12_init 72 = .ok (.aload_n 0, 1) := by decide +kernel
theorem dX12_init_73 : decode cX12_init 73 = .ok (.bipush 35, 2) := by decide +kernel
theorem dX12_init_75 : decode cX12_init 75 = .ok (.newarray .int, 2) := by decide +kernel
theorem dX12_init_77 : decode cX12_init 77 = .ok (.putfield 43, 3) := by decide +kernel
theorem dX12_init_80 : decode cX12_init 80 = .ok (.aload_n 0, 1) := by decide +kernel
theorem dX12_init_81 : decode cX12_init 81 = .ok (.bipush 35, 2) := by decide +kernel
theorem dX12_init_83 : decode cX12_init 83 = .ok (.newarray .int, 2) := by decide +kernel
theorem dX12_init_85 : decode cX12_init 85 = .ok (.putfield 46, 3) := by decide +kernel
theorem dX12_init_88 : decode cX12_init 88 = .ok (.aload_n 0, 1) := by decide +kernel
theorem dX12_init_89 : decode cX12_init 89 = .ok (.sipush 160, 3) := by decide +kernel
theorem dX12_init_92 : decode cX12_init 92 = .ok (.newarray .int, 2) := by decide +kernel
theorem dX12_init_94 : decode cX12_init 94 = .ok (.putfield 49, 3) := by decide +kernel
theorem dX12_init_97 : decode cX12_init 97 = .ok (.aload_n 0, 1) := by decide +kernel
theorem dX12_init_98 : decode cX12_init 98 = .ok (.iconst 5, 1) := by decide +kernel
theorem dX12_init_99 : decode cX12_init 99 = .ok (.newarray .int, 2) := by decide +kernel
theorem dX12_init_101 : decode cX12_init 101 = .ok (.putfield 52, 3) := by decide +kernel
theorem dX12_init_104 : decode cX12_init 104 = .ok (.aload_n 0, 1) := by decide +kernel
theorem dX12_init_105 : decode cX12_init 105 = .ok (.sipush 209, 3) := by decide +kernel
theorem dX12_init_108 : decode cX12_init 108 = .ok (.newarray .int, 2) := by decide +kernel
theorem dX12_init_110 : decode cX12_init 110 = .ok (.putfield 55, 3) := by decide +kernel
theorem dX12_init_113 : decode cX12_init 113 = .ok (.aload_n 0, 1) := by decide +kernel
theorem dX12_init_114 : decode cX12_init 114 = .ok (.sipush 209, 3) := by decide +kernel
theorem dX12_init_117 : decode cX12_init 117 = .ok (.newarray .int, 2) := by decide +kernel
theorem dX12_init_119 : decode cX12_init 119 = .ok (.putfield 58, 3) := by decide +kernel
theorem dX12_init_122 : decode cX12_init 122 = .ok (.aload_n 0, 1) := by decide +kernel
theorem dX12_init_123 : decode cX12_init 123 = .ok (.iconst (-1), 1) := by decide +kernel
theorem dX12_init_124 : decode cX12_init 124 = .ok (.putfield 61, 3) := by decide +kernel
theorem dX12_init_127 : decode cX12_init 127 = .ok (.aload_n 0, 1) := by decide +kernel
theorem dX12_init_128 : decode cX12_init 128 = .ok (.iconst 2, 1) := by decide +kernel
theorem dX12_init_129 : decode cX12_init 129 = .ok (.putfield 65, 3) := by decide +kernel
theorem dX12_init_132 : decode cX12_init 132 = .ok (.aload_n 0, 1) := by decide +kernel
theorem dX12_init_133 : decode cX12_init 133 = .ok (.sipush 8191, 3) := by decide +kernel
theorem dX12_init_136 : decode cX12_init 136 = .ok (.newarray .long, 2) := by decide +kernel
theorem dX12_init_138 : decode cX12_init 138 = .ok (.putfield 68, 3) := by decide +kernel
theorem dX12_init_141 : decode cX12_init 141 = .ok (.aload_n 0, 1) := by decide +kernel
theorem dX12_init_142 : decode cX12_init 142 = .ok (.sipush 8191, 3) := by decide +kernel
theorem dX12_init_145 : decode cX12_init 145 = .ok (.newarray .int, 2) := by decide +kernel
theorem dX12_init_147 : decode cX12_init 147 = .ok (.putfield 72, 3) := by decide +kernel
theorem dX12_init_150 : decode cX12_init 150 = .ok (.aload_n 0, 1) := by decide +kernel
theorem dX12_init_151 : decode cX12_init 151 = .ok (.sipush 8360, 3) := by decide +kernel
theorem dX12_init_154 : decode cX12_init 154 = .ok (.newarray .int, 2) := by decide +kernel
theorem dX12_init_156 : decode cX12_init 156 = .ok (.putfield 75, 3) := by decide +kernel
theorem dX12_init_159 : decode cX12_init 159 = .ok (.aload_n 0, 1) := by decide +kernel
theorem dX12_init_160 : decode cX12_init 160 = .ok (.sipush 232, 3) := by decide +kernel
theorem dX12_init_163 : decode cX12_init 163 = .ok (.newarray .int, 2) := by decide +kernel
theorem dX12_init_165 : decode cX12_init 165 = .ok (.putfield 78, 3) := by decide +kernel
theorem dX12_init_168 : decode cX12_init 168 = .ok (.aload_n 0, 1) := by decide +kernel
theorem dX12_init_169 : decode cX12_init 169 = .ok (.bipush 10, 2) := by decide +kernel
theorem dX12_init_171 : decode cX12_init 171 = .ok (.newarray .int, 2) := by decide +kernel
theorem dX12_init_173 : decode cX12_init 173 = .ok (.putfield 81, 3) := by decide +kernel
theorem dX12_init_176 : decode cX12_init 176 = .ok (.aload_n 0, 1) := by decide +kernel
theorem dX12_init_177 : decode cX12_init 177 = .ok (.bipush 10, 2) := by decide +kernel
theorem dX12_init_179 : decode cX12_init 179 = .ok (.newarray .int, 2) := by decide +kernel
theorem dX12_init_181 : decode cX12_init 181 = .ok (.putfield 84, 3) := by decide +kernel
theorem dX12_init_184 : decode cX12_init 184 = .ok (.aload_n 0, 1) := by decide +kernel
theorem dX12_init_185 : decode cX12_init 185 = .ok (.bipush 7, 2) := by decide +kernel
theorem dX12_init_187 : decode cX12_init 187 = .ok (.newarray .int, 2) := by decide +kernel
theorem dX12_init_189 : decode cX12_init 189 = .ok (.putfield 87, 3) := by decide +kernel
theorem dX12_init_192 : decode cX12_init 192 = .ok (.aload_n 0, 1) := by decide +kernel
theorem dX12_init_193 : decode cX12_init 193 = .ok (.bipush 7, 2) := by decide +kernel
theorem dX12_init_195 : decode cX12_init 195 = .ok (.newarray .int, 2) := by decide +kernel
theorem dX12_init_197 : decode cX12_init 197 = .ok (.putfield 90, 3) := by decide +kernel
theorem dX12_init_200 : decode cX12_init 200 = .ok (.aload_n 0, 1) := by decide +kernel
theorem dX12_init_201 : decode cX12_init 201 = .ok (.bipush 10, 2) := by decide +kernel
theorem dX12_init_203 : decode cX12_init 203 = .ok (.newarray .boolean, 2) := by decide +kernel
theorem dX12_init_205 : decode cX12_init 205 = .ok (.putfield 93, 3) := by decide +kernel
theorem dX12_init_208 : decode cX12_init 208 = .ok (.aload_n 0, 1) := by decide +kernel
theorem dX12_init_209 : decode cX12_init 209 = .ok (.bipush 7, 2) := by decide +kernel
theorem dX12_init_211 : decode cX12_init 211 = .ok (.newarray .int, 2) := by decide +kernel
theorem dX12_init_213 : decode cX12_init 213 = .ok (.putfield 97, 3) := by decide +kernel
theorem dX12_init_216 : decode cX12_init 216 = .ok (.aload_n 0, 1) := by decide +kernel
theorem dX12_init_217 : decode cX12_init 217 = .ok (.sipush 209, 3) := by decide +kernel
theorem dX12_init_220 : decode cX12_init 220 = .ok (.newarray .int, 2) := by decide +kernel
theorem dX12_init_222 : decode cX12_init 222 = .ok (.putfield 100, 3) := by decide +kernel
theorem dX12_init_225 : decode cX12_init 225 = .ok (.return_, 1) := by decide +kernel
theorem dX12_thrown_0 : decode cX12_thrown 0 = .ok (.aload_n 0, 1) := by decide +kernel
theorem dX12_thrown_1 : decode cX12_thrown 1 = .ok (.getfield 103, 3) := by decide +kernel
theorem dX12_thrown_4 : decode cX12_thrown 4 = .ok (.ireturn, 1) := by decide +kernel
theorem dX12_isIn_0 : decode cX12_isIn 0 = .ok (.lload_n 0, 1) := by decide +kernel
theorem dX12_isIn_1 : decode cX12_isIn 1 = .ok (.lload_n 2, 1) := by decide +kernel
theorem dX12_isIn_2 : decode cX12_isIn 2 = .ok (.lcmp, 1) := by decide +kernel
theorem dX12_isIn_3 : decode cX12_isIn 3 = .ok (.ifCond .lt 14, 3) := by decide +kernel
theorem dX12_isIn_6 : decode cX12_isIn 6 = .ok (.lload_n 0, 1) := by decide +kernel
theorem dX12_isIn_7 : decode cX12_isIn 7 = .ok (.lload 4, 2) := by decide +kernel
theorem dX12_isIn_9 : decode cX12_isIn 9 = .ok (.lcmp, 1) := by decide +kernel
theorem dX12_isIn_10 : decode cX12_isIn 10 = .ok (.ifCond .gt 7, 3) := by decide +kernel
theorem dX12_isIn_13 : decode cX12_isIn 13 = .ok (.iconst 1, 1) := by decide +kernel
theorem dX12_isIn_14 : decode cX12_isIn 14 = .ok (.goto 4, 3) := by decide +kernel
theorem dX12_isIn_17 : decode cX12_isIn 17 = .ok (.iconst 0, 1) := by decide +kernel
theorem dX12_isIn_18 : decode cX12_isIn 18 = .ok (.ireturn, 1) := by decide +kernel
theorem dX12_has_0 : decode cX12_has 0 = .ok (.iload_n 0, 1) := by decide +kernel
theorem dX12_has_1 : decode cX12_has 1 = .ok (.iload_n 1, 1) := by decide +kernel
theorem dX12_has_2 : decode cX12_has 2 = .ok (.ishr, 1) := by decide +kernel
theorem dX12_has_3 : decode cX12_has 3 = .ok (.iconst 1, 1) := by decide +kernel
theorem dX12_has_4 : decode cX12_has 4 = .ok (.iand, 1) := by decide +kernel
theorem dX12_has_5 : decode cX12_has 5 = .ok (.iconst 1, 1) := by decide +kernel
theorem dX12_has_6 : decode cX12_has 6 = .ok (.if_icmp .ne 7, 3) := by decide +kernel
theorem dX12_has_9 : decode cX12_has 9 = .ok (.iconst 1, 1) := by decide +kernel
theorem dX12_has_10 : decode cX12_has 10 = .ok (.goto 4, 3) := by decide +kernel
theorem dX12_has_13 : decode cX12_has 13 = .ok (.iconst 0, 1) := by decide +kernel
theorem dX12_has_14 : decode cX12_has 14 = .ok (.ireturn, 1) := by decide +kernel
theorem dX12_isAmong_0 : decode cX12_isAmong 0 = .ok (.iconst 0, 1) := by decide +kernel
theorem dX12_isAmong_1 : decode cX12_isAmong 1 = .ok (.istore_n 2, 1) := by decide +kernel
theorem dX12_isAmong_2 : decode cX12_isAmong 2 = .ok (.iload_n 2, 1) := by decide +kernel
theorem dX12_isAmong_3 : decode cX12_isAmong 3 = .ok (.aload_n 0, 1) := by decide +kernel
theorem dX12_isAmong_4 : decode cX12_isAmong 4 = .ok (.invokevirtual 106, 3) := by decide +kernel
theorem dX12_isAmong_7 : decode cX12_isAmong 7 = .ok (.if_icmp .ge 20, 3) := by decide +kernel
theorem dX12_isAmong_10 : decode cX12_isAmong 10 = .ok (.aload_n 0, 1) := by decide +kernel
theorem dX12_isAmong_11 : decode cX12_isAmong 11 = .ok (.iload_n 2, 1) := by decide +kernel
theorem dX12_isAmong_12 : decode cX12_isAmong 12 = .ok (.invokevirtual 112, 3) := by decide +kernel
theorem dX12_isAmong_15 : decode cX12_isAmong 15 = .ok (.iload_n 1, 1) := by decide +kernel
theorem dX12_isAmong_16 : decode cX12_isAmong 16 = .ok (.if_icmp .ne 5, 3) := by decide +kernel
theorem dX12_isAmong_19 : decode cX12_isAmong 19 = .ok (.iconst 1, 1) := by decide +kernel
theorem dX12_isAmong_20 : decode cX12_isAmong 20 = .ok (.ireturn, 1) := by decide +kernel
theorem dX12_isAmong_21 : decode cX12_isAmong 21 = .ok (.iinc 2 1, 3) := by decide +kernel
theorem dX12_isAmong_24 : decode cX12_isAmong 24 = .ok (.goto (-22), 3) := by decide +kernel
theorem dX12_isAmong_27 : decode cX12_isAmong 27 = .ok (.iconst 0, 1) := by decide +kernel
theorem dX12_isAmong_28 : decode cX12_isAmong 28 = .ok (.ireturn, 1) := by decide +kernel
theorem dX12_bytesIn_0 : decode cX12_bytesIn 0 = .ok (.iconst 0, 1) := by decide +kernel
theorem dX12_bytesIn_1 : decode cX12_bytesIn 1 = .ok (.istore_n 1, 1) := by decide +kernel
theorem dX12_bytesIn_2 : decode cX12_bytesIn 2 = .ok (.bipush 24, 2) := by decide +kernel
theorem dX12_bytesIn_4 : decode cX12_bytesIn 4 = .ok (.istore_n 2, 1) := by decide +kernel
theorem dX12_bytesIn_5 : decode cX12_bytesIn 5 = .ok (.iload_n 2, 1) := by decide +kernel
theorem dX12_bytesIn_6 : decode cX12_bytesIn 6 = .ok (.ifCond .lt 27, 3) := by decide +kernel
theorem dX12_bytesIn_9 : decode cX12_bytesIn 9 = .ok (.iload_n 1, 1) := by decide +kernel
theorem dX12_bytesIn_10 : decode cX12_bytesIn 10 = .ok (.iload_n 0, 1) := by decide +kernel
theorem dX12_bytesIn_11 : decode cX12_bytesIn 11 = .ok (.iload_n 2, 1) := by decide +kernel
theorem dX12_bytesIn_12 : decode cX12_bytesIn 12 = .ok (.ishr, 1) := by decide +kernel
theorem dX12_bytesIn_13 : decode cX12_bytesIn 13 = .ok (.sipush 255, 3) := by decide +kernel
theorem dX12_bytesIn_16 : decode cX12_bytesIn 16 = .ok (.iand, 1) := by decide +kernel
theorem dX12_bytesIn_17 : decode cX12_bytesIn 17 = .ok (.ifCond .eq 7, 3) := by decide +kernel
theorem dX12_bytesIn_20 : decode cX12_bytesIn 20 = .ok (.iconst 1, 1) := by decide +kernel
theorem dX12_bytesIn_21 : decode cX12_bytesIn 21 = .ok (.goto 4, 3) := by decide +kernel
theorem dX12_bytesIn_24 : decode cX12_bytesIn 24 = .ok (.iconst 0, 1) := by decide +kernel
theorem dX12_bytesIn_25 : decode cX12_bytesIn 25 = .ok (.iadd, 1) := by decide +kernel
theorem dX12_bytesIn_26 : decode cX12_bytesIn 26 = .ok (.istore_n 1, 1) := by decide +kernel
theorem dX12_bytesIn_27 : decode cX12_bytesIn 27 = .ok (.iinc 2 (-8), 3) := by decide +kernel
theorem dX12_bytesIn_30 : decode cX12_bytesIn 30 = .ok (.goto (-25), 3) := by decide +kernel
theorem dX12_bytesIn_33 : decode cX12_bytesIn 33 = .ok (.iload_n 1, 1) := by decide +kernel
theorem dX12_bytesIn_34 : decode cX12_bytesIn 34 = .ok (.ireturn, 1) := by decide +kernel
theorem dX12_put_0 : decode cX12_put 0 = .ok (.bipush 24, 2) := by decide +kernel
theorem dX12_put_2 : decode cX12_put 2 = .ok (.istore_n 2, 1) := by decide +kernel
theorem dX12_put_3 : decode cX12_put 3 = .ok (.iload_n 2, 1) := by decide +kernel
theorem dX12_put_4 : decode cX12_put 4 = .ok (.ifCond .lt 45, 3) := by decide +kernel
theorem dX12_put_7 : decode cX12_put 7 = .ok (.iload_n 1, 1) := by decide +kernel
theorem dX12_put_8 : decode cX12_put 8 = .ok (.iload_n 2, 1) := by decide +kernel
theorem dX12_put_9 : decode cX12_put 9 = .ok (.ishr, 1) := by decide +kernel
theorem dX12_put_10 : decode cX12_put 10 = .ok (.sipush 255, 3) := by decide +kernel
theorem dX12_put_13 : decode cX12_put 13 = .ok (.iand, 1) := by decide +kernel
theorem dX12_put_14 : decode cX12_put 14 = .ok (.ifCond .ne 6, 3) := by decide +kernel
theorem dX12_put_17 : decode cX12_put 17 = .ok (.goto 26, 3) := by decide +kernel
theorem dX12_put_20 : decode cX12_put 20 = .ok (.aload_n 0, 1) := by decide +kernel
theorem dX12_put_21 : decode cX12_put 21 = .ok (.getfield 9, 3) := by decide +kernel
theorem dX12_put_24 : decode cX12_put 24 = .ok (.aload_n 0, 1) := by decide +kernel
theorem dX12_put_25 : decode cX12_put 25 = .ok (.getfield 116, 3) := by decide +kernel
theorem dX12_put_28 : decode cX12_put 28 = .ok (.iload_n 1, 1) := by decide +kernel
theorem dX12_put_29 : decode cX12_put 29 = .ok (.iload_n 2, 1) := by decide +kernel
theorem dX12_put_30 : decode cX12_put 30 = .ok (.ishr, 1) := by decide +kernel
theorem dX12_put_31 : decode cX12_put 31 = .ok (.i2b, 1) := by decide +kernel
theorem dX12_put_32 : decode cX12_put 32 = .ok (.bastore, 1) := by decide +kernel
theorem dX12_put_33 : decode cX12_put 33 = .ok (.aload_n 0, 1) := by decide +kernel
theorem dX12_put_34 : decode cX12_put 34 = .ok (.dup, 1) := by decide +kernel
theorem dX12_put_35 : decode cX12_put 35 = .ok (.getfield 116, 3) := by decide +kernel
theorem dX12_put_38 : decode cX12_put 38 = .ok (.iconst 1, 1) := by decide +kernel
theorem dX12_put_39 : decode cX12_put 39 = .ok (.iadd, 1) := by decide +kernel
theorem dX12_put_40 : decode cX12_put 40 = .ok (.putfield 116, 3) := by decide +kernel
theorem dX12_put_43 : decode cX12_put 43 = .ok (.iinc 2 (-8), 3) := by decide +kernel
theorem dX12_put_46 : decode cX12_put 46 = .ok (.goto (-43), 3) := by decide +kernel
theorem dX12_put_49 : decode cX12_put 49 = .ok (.return_, 1) := by decide +kernel
theorem dX12_feed_0 : decode cX12_feed 0 = .ok (.aload_n 0, 1) := by decide +kernel
theorem dX12_feed_1 : decode cX12_feed 1 = .ok (.iconst 0, 1) := by decide +kernel
theorem dX12_feed_2 : decode cX12_feed 2 = .ok (.putfield 103, 3) := by decide +kernel
theorem dX12_feed_5 : decode cX12_feed 5 = .ok (.aload_n 0, 1) := by decide +kernel
theorem dX12_feed_6 : decode cX12_feed 6 = .ok (.getfield 116, 3) := by decide +kernel
theorem dX12_feed_9 : decode cX12_feed 9 = .ok (.iload_n 1, 1) := by decide +kernel
theorem dX12_feed_10 : decode cX12_feed 10 = .ok (.invokestatic 118, 3) := by decide +kernel
theorem dX12_feed_13 : decode cX12_feed 13 = .ok (.iadd, 1) := by decide +kernel
theorem dX12_feed_14 : decode cX12_feed 14 = .ok (.iload_n 2, 1) := by decide +kernel
theorem dX12_feed_15 : decode cX12_feed 15 = .ok (.invokestatic 118, 3) := by decide +kernel
theorem dX12_feed_18 : decode cX12_feed 18 = .ok (.iadd, 1) := by decide +kernel
theorem dX12_feed_19 : decode cX12_feed 19 = .ok (.iload_n 3, 1) := by decide +kernel
theorem dX12_feed_20 : decode cX12_feed 20 = .ok (.invokestatic 118, 3) := by decide +kernel
theorem dX12_feed_23 : decode cX12_feed 23 = .ok (.iadd, 1) := by decide +kernel
theorem dX12_feed_24 : decode cX12_feed 24 = .ok (.iload 4, 2) := by decide +kernel
theorem dX12_feed_26 : decode cX12_feed 26 = .ok (.invokestatic 118, 3) := by decide +kernel
theorem dX12_feed_29 : decode cX12_feed 29 = .ok (.iadd, 1) := by decide +kernel
theorem dX12_feed_30 : decode cX12_feed 30 = .ok (.iload 5, 2) := by decide +kernel
theorem dX12_feed_32 : decode cX12_feed 32 = .ok (.invokestatic 118, 3) := by decide +kernel
theorem dX12_feed_35 : decode cX12_feed 35 = .ok (.iadd, 1) := by decide +kernel
theorem dX12_feed_36 : decode cX12_feed 36 = .ok (.sipush 240, 3) := by decide +kernel
theorem dX12_feed_39 : decode cX12_feed 39 = .ok (.if_icmp .le 5, 3) := by decide +kernel
theorem dX12_feed_42 : decode cX12_feed 42 = .ok (.iconst (-1), 1) := by decide +kernel
theorem dX12_feed_43 : decode cX12_feed 43 = .ok (.ireturn, 1) := by decide +kernel
theorem dX12_feed_44 : decode cX12_feed 44 = .ok (.aload_n 0, 1) := by decide +kernel
theorem dX12_feed_45 : decode cX12_feed 45 = .ok (.iload_n 1, 1) := by decide +kernel
theorem dX12_feed_46 : decode cX12_feed 46 = .ok (.invokevirtual 122, 3) := by decide +kernel
theorem dX12_feed_49 : decode cX12_feed 49 = .ok (.aload_n 0, 1) := by decide +kernel
theorem dX12_feed_50 : decode cX12_feed 50 = .ok (.iload_n 2, 1) := by decide +kernel
theorem dX12_feed_51 : decode cX12_feed 51 = .ok (.invokevirtual 122, 3) := by decide +kernel
theorem dX12_feed_54 : decode cX12_feed 54 = .ok (.aload_n 0, 1) := by decide +kernel
theorem dX12_feed_55 : decode cX12_feed 55 = .ok (.iload_n 3, 1) := by decide +kernel
theorem dX12_feed_56 : decode cX12_feed 56 = .ok (.invokevirtual 122, 3) := by decide +kernel
theorem dX12_feed_59 : decode cX12_feed 59 = .ok (.aload_n 0, 1) := by decide +kernel
theorem dX12_feed_60 : decode cX12_feed 60 = .ok (.iload 4, 2) := by decide +kernel
theorem dX12_feed_62 : decode cX12_feed 62 = .ok (.invokevirtual 122, 3) := by decide +kernel
theorem dX12_feed_65 : decode cX12_feed 65 = .ok (.aload_n 0, 1) := by decide +kernel
theorem dX12_feed_66 : decode cX12_feed 66 = .ok (.iload 5, 2) := by decide +kernel
theorem dX12_feed_68 : decode cX12_feed 68 = .ok (.invokevirtual 122, 3) := by decide +kernel
theorem dX12_feed_71 : decode cX12_feed 71 = .ok (.aload_n 0, 1) := by decide +kernel
theorem dX12_feed_72 : decode cX12_feed 72 = .ok (.getfield 116, 3) := by decide +kernel
theorem dX12_feed_75 : decode cX12_feed 75 = .ok (.ireturn, 1) := by decide +kernel
theorem dX12_end_0 : decode cX12_end 0 = .ok (.aload_n 0, 1) := by decide +kernel
theorem dX12_end_1 : decode cX12_end 1 = .ok (.iconst 0, 1) := by decide +kernel
theorem dX12_end_2 : decode cX12_end 2 = .ok (.putfield 103, 3) := by decide +kernel
theorem dX12_end_5 : decode cX12_end 5 = .ok (.iload_n 1, 1) := by decide +kernel
theorem dX12_end_6 : decode cX12_end 6 = .ok (.ifCond .lt 11, 3) := by decide +kernel
theorem dX12_end_9 : decode cX12_end 9 = .ok (.iload_n 1, 1) := by decide +kernel
theorem dX12_end_10 : decode cX12_end 10 = .ok (.aload_n 0, 1) := by decide +kernel
theorem dX12_end_11 : decode cX12_end 11 = .ok (.getfield 116, 3) := by decide +kernel
theorem dX12_end_14 : decode cX12_end 14 = .ok (.if_icmp .le 5, 3) := by decide +kernel
theorem dX12_end_17 : decode cX12_end 17 = .ok (.iconst 0, 1) := by decide +kernel
theorem dX12_end_18 : decode cX12_end 18 = .ok (.ireturn, 1) := by decide +kernel
theorem dX12_end_19 : decode cX12_end 19 = .ok (.aload_n 0, 1) := by decide +kernel
theorem dX12_end_20 : decode cX12_end 20 = .ok (.iload_n 1, 1) := by decide +kernel
theorem dX12_end_21 : decode cX12_end 21 = .ok (.putfield 116, 3) := by decide +kernel
theorem dX12_end_24 : decode cX12_end 24 = .ok (.iconst 1, 1) := by decide +kernel
theorem dX12_end_25 : decode cX12_end 25 = .ok (.ireturn, 1) := by decide +kernel
theorem dX12_look_0 : decode cX12_look 0 = .ok (.aload_n 0, 1) := by decide +kernel
theorem dX12_look_1 : decode cX12_look 1 = .ok (.getfield 126, 3) := by decide +kernel
theorem dX12_look_4 : decode cX12_look 4 = .ok (.aload_n 0, 1) := by decide +kernel
theorem dX12_look_5 : decode cX12_look 5 = .ok (.getfield 129, 3) := by decide +kernel
theorem dX12_look_8 : decode cX12_look 8 = .ok (.if_icmp .ge 35, 3) := by decide +kernel
theorem dX12_look_11 : decode cX12_look 11 = .ok (.aload_n 0, 1) := by decide +kernel
theorem dX12_look_12 : decode cX12_look 12 = .ok (.getfield 23, 3) := by decide +kernel
theorem dX12_look_15 : decode cX12_look 15 = .ok (.aload_n 0, 1) := by decide +kernel
theorem dX12_look_16 : decode cX12_look 16 = .ok (.getfield 132, 3) := by decide +kernel
theorem dX12_look_19 : decode cX12_look 19 = .ok (.aload_n 0, 1) := by decide +kernel
theorem dX12_look_20 : decode cX12_look 20 = .ok (.getfield 126, 3) := by decide +kernel
theorem dX12_look_23 : decode cX12_look 23 = .ok (.iadd, 1) := by decide +kernel
theorem dX12_look_24 : decode cX12_look 24 = .ok (.baload, 1) := by decide +kernel
theorem dX12_look_25 : decode cX12_look 25 = .ok (.bipush 32, 2) := by decide +kernel
theorem dX12_look_27 : decode cX12_look 27 = .ok (.if_icmp .ne 16, 3) := by decide +kernel
theorem dX12_look_30 : decode cX12_look 30 = .ok (.aload_n 0, 1) := by decide +kernel
theorem dX12_look_31 : decode cX12_look 31 = .ok (.dup, 1) := by decide +kernel
theorem dX12_look_32 : decode cX12_look 32 = .ok (.getfield 126, 3) := by decide +kernel
theorem dX12_look_35 : decode cX12_look 35 = .ok (.iconst 1, 1) := by decide +kernel
theorem dX12_look_36 : decode cX12_look 36 = .ok (.iadd, 1) := by decide +kernel
theorem dX12_look_37 : decode cX12_look 37 = .ok (.putfield 126, 3) := by decide +kernel
theorem dX12_look_40 : decode cX12_look 40 = .ok (.goto (-40), 3) := by decide +kernel
theorem dX12_look_43 : decode cX12_look 43 = .ok (.aload_n 0, 1) := by decide +kernel
theorem dX12_look_44 : decode cX12_look 44 = .ok (.getfield 126, 3) := by decide +kernel
theorem dX12_look_47 : decode cX12_look 47 = .ok (.aload_n 0, 1) := by decide +kernel
theorem dX12_look_48 : decode cX12_look 48 = .ok (.getfield 129, 3) := by decide +kernel
theorem dX12_look_51 : decode cX12_look 51 = .ok (.if_icmp .ge 24, 3) := by decide +kernel
theorem dX12_look_54 : decode cX12_look 54 = .ok (.aload_n 0, 1) := by decide +kernel
theorem dX12_look_55 : decode cX12_look 55 = .ok (.getfield 23, 3) := by decide +kernel
theorem dX12_look_58 : decode cX12_look 58 = .ok (.aload_n 0, 1) := by decide +kernel
theorem dX12_look_59 : decode cX12_look 59 = .ok (.getfield 132, 3) := by decide +kernel
theorem dX12_look_62 : decode cX12_look 62 = .ok (.aload_n 0, 1) := by decide +kernel
theorem dX12_look_63 : decode cX12_look 63 = .ok (.getfield 126, 3) := by decide +kernel
theorem dX12_look_66 : decode cX12_look 66 = .ok (.iadd, 1) := by decide +kernel
theorem dX12_look_67 : decode cX12_look 67 = .ok (.baload, 1) := by decide +kernel
theorem dX12_look_68 : decode cX12_look 68 = .ok (.sipush 255, 3) := by decide +kernel
theorem dX12_look_71 : decode cX12_look 71 = .ok (.iand, 1) := by decide +kernel
theorem dX12_look_72 : decode cX12_look 72 = .ok (.goto 4, 3) := by decide +kernel
theorem dX12_look_75 : decode cX12_look 75 = .ok (.iconst (-1), 1) := by decide +kernel
theorem dX12_look_76 : decode cX12_look 76 = .ok (.ireturn, 1) := by decide +kernel
theorem dX12_fails_0 : decode cX12_fails 0 = .ok (.aload_n 0, 1) := by decide +kernel
theorem dX12_fails_1 : decode cX12_fails 1 = .ok (.getfield 135, 3) := by decide +kernel
theorem dX12_fails_4 : decode cX12_fails 4 = .ok (.iconst (-1), 1) := by decide +kernel
theorem dX12_fails_5 : decode cX12_fails 5 = .ok (.if_icmp .ne 11, 3) := by decide +kernel
theorem dX12_fails_8 : decode cX12_fails 8 = .ok (.aload_n 0, 1) := by decide +kernel
theorem dX12_fails_9 : decode cX12_fails 9 = .ok (.aload_n 0, 1) := by decide +kernel
theorem dX12_fails_10 : decode cX12_fails 10 = .ok (.getfield 126, 3) := by decide +kernel
theorem dX12_fails_13 : decode cX12_fails 13 = .ok (.putfield 135, 3) := by decide +kernel
theorem dX12_fails_16 : decode cX12_fails 16 = .ok (.iconst 0, 1) := by decide +kernel
theorem dX12_fails_17 : decode cX12_fails 17 = .ok (.ireturn, 1) := by decide +kernel
theorem dX12_goesIn_0 : decode cX12_goesIn 0 = .ok (.aload_n 0, 1) := by decide +kernel
theorem dX12_goesIn_1 : decode cX12_goesIn 1 = .ok (.getfield 138, 3) := by decide +kernel
theorem dX12_goesIn_4 : decode cX12_goesIn 4 = .ok (.bipush 6, 2) := by decide +kernel
theorem dX12_goesIn_6 : decode cX12_goesIn 6 = .ok (.if_icmp .ne 8, 3) := by decide +kernel
theorem dX12_goesIn_9 : decode cX12_goesIn 9 = .ok (.aload_n 0, 1) := by decide +kernel
theorem dX12_goesIn_10 : decode cX12_goesIn 10 = .ok (.invokevirtual 141, 3) := by decide +kernel
theorem dX12_goesIn_13 : decode cX12_goesIn 13 = .ok (.ireturn, 1) := by decide +kernel
theorem dX12_goesIn_14 : decode cX12_goesIn 14 = .ok (.aload_n 0, 1) := by decide +kernel
theorem dX12_goesIn_15 : decode cX12_goesIn 15 = .ok (.dup, 1) := by decide +kernel
theorem dX12_goesIn_16 : decode cX12_goesIn 16 = .ok (.getfield 138, 3) := by decide +kernel
theorem dX12_goesIn_19 : decode cX12_goesIn 19 = .ok (.iconst 1, 1) := by decide +kernel
theorem dX12_goesIn_20 : decode cX12_goesIn 20 = .ok (.iadd, 1) := by decide +kernel
theorem dX12_goesIn_21 : decode cX12_goesIn 21 = .ok (.putfield 138, 3) := by decide +kernel
theorem dX12_goesIn_24 : decode cX12_goesIn 24 = .ok (.aload_n 0, 1) := by decide +kernel
theorem dX12_goesIn_25 : decode cX12_goesIn 25 = .ok (.dup, 1) := by decide +kernel
theorem dX12_goesIn_26 : decode cX12_goesIn 26 = .ok (.getfield 126, 3) := by decide +kernel
theorem dX12_goesIn_29 : decode cX12_goesIn 29 = .ok (.iconst 1, 1) := by decide +kernel
theorem dX12_goesIn_30 : decode cX12_goesIn 30 = .ok (.iadd, 1) := by decide +kernel
theorem dX12_goesIn_31 : decode cX12_goesIn 31 = .ok (.putfield 126, 3) := by decide +kernel
theorem dX12_goesIn_34 : decode cX12_goesIn 34 = .ok (.iconst 1, 1) := by decide +kernel
theorem dX12_goesIn_35 : decode cX12_goesIn 35 = .ok (.ireturn, 1) := by decide +kernel
theorem dX12_takes_0 : decode cX12_takes 0 = .ok (.aload_n 0, 1) := by decide +kernel
theorem dX12_takes_1 : decode cX12_takes 1 = .ok (.getfield 135, 3) := by decide +kernel
theorem dX12_takes_4 : decode cX12_takes 4 = .ok (.iconst (-1), 1) := by decide +kernel
theorem dX12_takes_5 : decode cX12_takes 5 = .ok (.if_icmp .ne 11, 3) := by decide +kernel
theorem dX12_takes_8 : decode cX12_takes 8 = .ok (.aload_n 0, 1) := by decide +kernel
theorem dX12_takes_9 : decode cX12_takes 9 = .ok (.invokevirtual 145, 3) := by decide +kernel
theorem dX12_takes_12 : decode cX12_takes 12 = .ok (.iload_n 1, 1) := by decide +kernel
theorem dX12_takes_13 : decode cX12_takes 13 = .ok (.if_icmp .eq 8, 3) := by decide +kernel
theorem dX12_takes_16 : decode cX12_takes 16 = .ok (.aload_n 0, 1) := by decide +kernel
theorem dX12_takes_17 : decode cX12_takes 17 = .ok (.invokevirtual 141, 3) := by decide +kernel
theorem dX12_takes_20 : decode cX12_takes 20 = .ok (.ireturn, 1) := by decide +kernel
theorem dX12_takes_21 : decode cX12_takes 21 = .ok (.aload_n 0, 1) := by decide +kernel
theorem dX12_takes_22 : decode cX12_takes 22 = .ok (.dup, 1) := by decide +kernel
theorem dX12_takes_23 : decode cX12_takes 23 = .ok (.getfield 126, 3) := by decide +kernel
theorem dX12_takes_26 : decode cX12_takes 26 = .ok (.iconst 1, 1) := by decide +kernel
theorem dX12_takes_27 : decode cX12_takes 27 = .ok (.iadd, 1) := by decide +kernel
theorem dX12_takes_28 : decode cX12_takes 28 = .ok (.putfield 126, 3) := by decide +kernel
theorem dX12_takes_31 : decode cX12_takes 31 = .ok (.iconst 1, 1) := by decide +kernel
theorem dX12_takes_32 : decode cX12_takes 32 = .ok (.ireturn, 1) := by decide +kernel
theorem dX12_isDigit_0 : decode cX12_isDigit 0 = .ok (.aload_n 0, 1) := by decide +kernel
theorem dX12_isDigit_1 : decode cX12_isDigit 1 = .ok (.getfield 126, 3) := by decide +kernel
theorem dX12_isDigit_4 : decode cX12_isDigit 4 = .ok (.aload_n 0, 1) := by decide +kernel
theorem dX12_isDigit_5 : decode cX12_isDigit 5 = .ok (.getfield 129, 3) := by decide +kernel
theorem dX12_isDigit_8 : decode cX12_isDigit 8 = .ok (.if_icmp .ge 45, 3) := by decide +kernel
theorem dX12_isDigit_11 : decode cX12_isDigit 11 = .ok (.aload_n 0, 1) := by decide +kernel
theorem dX12_isDigit_12 : decode cX12_isDigit 12 = .ok (.getfield 23, 3) := by decide +kernel
theorem dX12_isDigit_15 : decode cX12_isDigit 15 = .ok (.aload_n 0, 1) := by decide +kernel
theorem dX12_isDigit_16 : decode cX12_isDigit 16 = .ok (.getfield 132, 3) := by decide +kernel
theorem dX12_isDigit_19 : decode cX12_isDigit 19 = .ok (.aload_n 0, 1) := by decide +kernel
theorem dX12_isDigit_20 : decode cX12_isDigit 20 = .ok (.getfield 126, 3) := by decide +kernel
theorem dX12_isDigit_23 : decode cX12_isDigit 23 = .ok (.iadd, 1) := by decide +kernel
theorem dX12_isDigit_24 : decode cX12_isDigit 24 = .ok (.baload, 1) := by decide +kernel
theorem dX12_isDigit_25 : decode cX12_isDigit 25 = .ok (.bipush 48, 2) := by decide +kernel
theorem dX12_isDigit_27 : decode cX12_isDigit 27 = .ok (.if_icmp .lt 26, 3) := by decide +kernel
theorem dX12_isDigit_30 : decode cX12_isDigit 30 = .ok (.aload_n 0, 1) := by decide +kernel
theorem dX12_isDigit_31 : decode cX12_isDigit 31 = .ok (.getfield 23, 3) := by decide +kernel
theorem dX12_isDigit_34 : decode cX12_isDigit 34 = .ok (.aload_n 0, 1) := by decide +kernel
theorem dX12_isDigit_35 : decode cX12_isDigit 35 = .ok (.getfield 132, 3) := by decide +kernel
theorem dX12_isDigit_38 : decode cX12_isDigit 38 = .ok (.aload_n 0, 1) := by decide +kernel
theorem dX12_isDigit_39 : decode cX12_isDigit 39 = .ok (.getfield 126, 3) := by decide +kernel
theorem dX12_isDigit_42 : decode cX12_isDigit 42 = .ok (.iadd, 1) := by decide +kernel
theorem dX12_isDigit_43 : decode cX12_isDigit 43 = .ok (.baload, 1) := by decide +kernel
theorem dX12_isDigit_44 : decode cX12_isDigit 44 = .ok (.bipush 57, 2) := by decide +kernel
theorem dX12_isDigit_46 : decode cX12_isDigit 46 = .ok (.if_icmp .gt 7, 3) := by decide +kernel
theorem dX12_isDigit_49 : decode cX12_isDigit 49 = .ok (.iconst 1, 1) := by decide +kernel
theorem dX12_isDigit_50 : decode cX12_isDigit 50 = .ok (.goto 4, 3) := by decide +kernel
theorem dX12_isDigit_53 : decode cX12_isDigit 53 = .ok (.iconst 0, 1) := by decide +kernel
theorem dX12_isDigit_54 : decode cX12_isDigit 54 = .ok (.ireturn, 1) := by decide +kernel
theorem dX12_within_0 : decode cX12_within 0 = .ok (.ldc2_w 148, 3) := by decide +kernel
theorem dX12_within_3 : decode cX12_within 3 = .ok (.ldc2_w 150, 3) := by decide +kernel
theorem dX12_within_6 : decode cX12_within 6 = .ok (.lload_n 0, 1) := by decide +kernel
theorem dX12_within_7 : decode cX12_within 7 = .ok (.invokestatic 152, 3) := by decide +kernel
theorem dX12_within_10 : decode cX12_within 10 = .ok (.invokestatic 158, 3) := by decide +kernel
theorem dX12_within_13 : decode cX12_within 13 = .ok (.l2i, 1) := by decide +kernel
theorem dX12_within_14 : decode cX12_within 14 = .ok (.ireturn, 1) := by decide +kernel
theorem dX12_atom_0 : decode cX12_atom 0 = .ok (.aload_n 0, 1) := by decide +kernel
theorem dX12_atom_1 : decode cX12_atom 1 = .ok (.invokevirtual 145, 3) := by decide +kernel
theorem dX12_atom_4 : decode cX12_atom 4 = .ok (.istore_n 1, 1) := by decide +kernel
theorem dX12_atom_5 : decode cX12_atom 5 = .ok (.ldc 32, 2) := by decide +kernel
theorem dX12_atom_7 : decode cX12_atom 7 = .ok (.iload_n 1, 1) := by decide +kernel
theorem dX12_atom_8 : decode cX12_atom 8 = .ok (.invokestatic 161, 3) := by decide +kernel
theorem dX12_atom_11 : decode cX12_atom 11 = .ok (.ifCond .eq 20, 3) := by decide +kernel
theorem dX12_atom_14 : decode cX12_atom 14 = .ok (.aload_n 0, 1) := by decide +kernel
theorem dX12_atom_15 : decode cX12_atom 15 = .ok (.dup, 1) := by decide +kernel
theorem dX12_atom_16 : decode cX12_atom 16 = .ok (.getfield 126, 3) := by decide +kernel
theorem dX12_atom_19 : decode cX12_atom 19 = .ok (.iconst 1, 1) := by decide +kernel
theorem dX12_atom_20 : decode cX12_atom 20 = .ok (.iadd, 1) := by decide +kernel
theorem dX12_atom_21 : decode cX12_atom 21 = .ok (.putfield 126, 3) := by decide +kernel
theorem dX12_atom_24 : decode cX12_atom 24 = .ok (.aload_n 0, 1) := by decide +kernel
theorem dX12_atom_25 : decode cX12_atom 25 = .ok (.getfield 20, 3) := by decide +kernel
theorem dX12_atom_28 : decode cX12_atom 28 = .ok (.iload_n 1, 1) := by decide +kernel
theorem dX12_atom_29 : decode cX12_atom 29 = .ok (.iaload, 1) := by decide +kernel
theorem dX12_atom_30 : decode cX12_atom 30 = .ok (.ireturn, 1) := by decide +kernel
theorem dX12_atom_31 : decode cX12_atom 31 = .ok (.iload_n 1, 1) := by decide +kernel
theorem dX12_atom_32 : decode cX12_atom 32 = .ok (.bipush 91, 2) := by decide +kernel
theorem dX12_atom_34 : decode cX12_atom 34 = .ok (.if_icmp .ne 40, 3) := by decide +kernel
theorem dX12_atom_37 : decode cX12_atom 37 = .ok (.aload_n 0, 1) := by decide +kernel
theorem dX12_atom_38 : decode cX12_atom 38 = .ok (.invokevirtual 165, 3) := by decide +kernel
theorem dX12_atom_41 : decode cX12_atom 41 = .ok (.ifCond .ne 5, 3) := by decide +kernel
theorem dX12_atom_44 : decode cX12_atom 44 = .ok (.iconst 0, 1) := by decide +kernel
theorem dX12_atom_45 : decode cX12_atom 45 = .ok (.ireturn, 1) := by decide +kernel
theorem dX12_atom_46 : decode cX12_atom 46 = .ok (.aload_n 0, 1) := by decide +kernel
theorem dX12_atom_47 : decode cX12_atom 47 = .ok (.invokevirtual 168, 3) := by decide +kernel
theorem dX12_atom_50 : decode cX12_atom 50 = .ok (.istore_n 2, 1) := by decide +kernel
theorem dX12_atom_51 : decode cX12_atom 51 = .ok (.aload_n 0, 1) := by decide +kernel
theorem dX12_atom_52 : decode cX12_atom 52 = .ok (.bipush 93, 2) := by decide +kernel
theorem dX12_atom_54 : decode cX12_atom 54 = .ok (.invokevirtual 171, 3) := by decide +kernel
theorem dX12_atom_57 : decode cX12_atom 57 = .ok (.ifCond .ne 5, 3) := by decide +kernel
theorem dX12_atom_60 : decode cX12_atom 60 = .ok (.iconst 0, 1) := by decide +kernel
theorem dX12_atom_61 : decode cX12_atom 61 = .ok (.ireturn, 1) := by decide +kernel
theorem dX12_atom_62 : decode cX12_atom 62 = .ok (.aload_n 0, 1) := by decide +kernel
theorem dX12_atom_63 : decode cX12_atom 63 = .ok (.dup, 1) := by decide +kernel
theorem dX12_atom_64 : decode cX12_atom 64 = .ok (.getfield 138, 3) := by decide +kernel
theorem dX12_atom_67 : decode cX12_atom 67 = .ok (.iconst 1, 1) := by decide +kernel
theorem dX12_atom_68 : decode cX12_atom 68 = .ok (.isub, 1) := by decide +kernel
theorem dX12_atom_69 : decode cX12_atom 69 = .ok (.putfield 138, 3) := by decide +kernel
theorem dX12_atom_72 : decode cX12_atom 72 = .ok (.iload_n 2, 1) := by decide +kernel
theorem dX12_atom_73 : decode cX12_atom 73 = .ok (.ireturn, 1) := by decide +kernel
theorem dX12_atom_74 : decode cX12_atom 74 = .ok (.aload_n 0, 1) := by decide +kernel
theorem dX12_atom_75 : decode cX12_atom 75 = .ok (.invokevirtual 175, 3) := by decide +kernel
theorem dX12_atom_78 : decode cX12_atom 78 = .ok (.ifCond .ne 8, 3) := by decide +kernel
theorem dX12_atom_81 : decode cX12_atom 81 = .ok (.aload_n 0, 1) := by decide +kernel
theorem dX12_atom_82 : decode cX12_atom 82 = .ok (.invokevirtual 141, 3) := by decide +kernel
theorem dX12_atom_85 : decode cX12_atom 85 = .ok (.pop, 1) := by decide +kernel
theorem dX12_atom_86 : decode cX12_atom 86 = .ok (.iconst 0, 1) := by decide +kernel
theorem dX12_atom_87 : decode cX12_atom 87 = .ok (.istore_n 2, 1) := by decide +kernel
theorem dX12_atom_88 : decode cX12_atom 88 = .ok (.iconst 0, 1) := by decide +kernel
theorem dX12_atom_89 : decode cX12_atom 89 = .ok (.istore_n 3, 1) := by decide +kernel
theorem dX12_atom_90 : decode cX12_atom 90 = .ok (.aload_n 0, 1) := by decide +kernel
theorem dX12_atom_91 : decode cX12_atom 91 = .ok (.invokevirtual 175, 3) := by decide +kernel
theorem dX12_atom_94 : decode cX12_atom 94 = .ok (.ifCond .eq 62, 3) := by decide +kernel
theorem dX12_atom_97 : decode cX12_atom 97 = .ok (.aload_n 0, 1) := by decide +kernel
theorem dX12_atom_98 : decode cX12_atom 98 = .ok (.getfield 135, 3) := by decide +kernel
theorem dX12_atom_101 : decode cX12_atom 101 = .ok (.iconst (-1), 1) := by decide +kernel
theorem dX12_atom_102 : decode cX12_atom 102 = .ok (.if_icmp .ne 54, 3) := by decide +kernel
theorem dX12_atom_105 : decode cX12_atom 105 = .ok (.iload_n 3, 1) := by decide +kernel
theorem dX12_atom_106 : decode cX12_atom 106 = .ok (.iconst 4, 1) := by decide +kernel
theorem dX12_atom_107 : decode cX12_atom 107 = .ok (.if_icmp .ne 10, 3) := by decide +kernel
theorem dX12_atom_110 : decode cX12_atom 110 = .ok (.aload_n 0, 1) := by decide +kernel
theorem dX12_atom_111 : decode cX12_atom 111 = .ok (.invokevirtual 141, 3) := by decide +kernel
theorem dX12_atom_114 : decode cX12_atom 114 = .ok (.pop, 1) := by decide +kernel
theorem dX12_atom_115 : decode cX12_atom 115 = .ok (.iconst 0, 1) := by decide +kernel
theorem dX12_atom_116 : decode cX12_atom 116 = .ok (.ireturn, 1) := by decide +kernel
theorem dX12_atom_117 : decode cX12_atom 117 = .ok (.bipush 10, 2) := by decide +kernel
theorem dX12_atom_119 : decode cX12_atom 119 = .ok (.iload_n 2, 1) := by decide +kernel
theorem dX12_atom_120 : decode cX12_atom 120 = .ok (.imul, 1) := by decide +kernel
theorem dX12_atom_121 : decode cX12_atom 121 = .ok (.aload_n 0, 1) := by decide +kernel
theorem dX12_atom_122 : decode cX12_atom 122 = .ok (.getfield 23, 3) := by decide +kernel
theorem dX12_atom_125 : decode cX12_atom 125 = .ok (.aload_n 0, 1) := by decide +kernel
theorem dX12_atom_126 : decode cX12_atom 126 = .ok (.getfield 132, 3) := by decide +kernel
theorem dX12_atom_129 : decode cX12_atom 129 = .ok (.aload_n 0, 1) := by decide +kernel
theorem dX12_atom_130 : decode cX12_atom 130 = .ok (.getfield 126, 3) := by decide +kernel
theorem dX12_atom_133 : decode cX12_atom 133 = .ok (.iadd, 1) := by decide +kernel
theorem dX12_atom_134 : decode cX12_atom 134 = .ok (.baload, 1) := by decide +kernel
theorem dX12_atom_135 : decode cX12_atom 135 = .ok (.iadd, 1) := by decide +kernel
theorem dX12_atom_136 : decode cX12_atom 136 = .ok (.bipush 48, 2) := by decide +kernel
theorem dX12_atom_138 : decode cX12_atom 138 = .ok (.isub, 1) := by decide +kernel
theorem dX12_atom_139 : decode cX12_atom 139 = .ok (.istore_n 2, 1) := by decide +kernel
theorem dX12_atom_140 : decode cX12_atom 140 = .ok (.aload_n 0, 1) := by decide +kernel
theorem dX12_atom_141 : decode cX12_atom 141 = .ok (.dup, 1) := by decide +kernel
theorem dX12_atom_142 : decode cX12_atom 142 = .ok (.getfield 126, 3) := by decide +kernel
theorem dX12_atom_145 : decode cX12_atom 145 = .ok (.iconst 1, 1) := by decide +kernel
theorem dX12_atom_146 : decode cX12_atom 146 = .ok (.iadd, 1) := by decide +kernel
theorem dX12_atom_147 : decode cX12_atom 147 = .ok (.putfield 126, 3) := by decide +kernel
theorem dX12_atom_150 : decode cX12_atom 150 = .ok (.iinc 3 1, 3) := by decide +kernel
theorem dX12_atom_153 : decode cX12_atom 153 = .ok (.goto (-63), 3) := by decide +kernel
theorem dX12_atom_156 : decode cX12_atom 156 = .ok (.iload_n 2, 1) := by decide +kernel
theorem dX12_atom_157 : decode cX12_atom 157 = .ok (.ireturn, 1) := by decide +kernel
theorem dX12_term_0 : decode cX12_term 0 = .ok (.aload_n 0, 1) := by decide +kernel
theorem dX12_term_1 : decode cX12_term 1 = .ok (.invokevirtual 178, 3) := by decide +kernel
theorem dX12_term_4 : decode cX12_term 4 = .ok (.istore_n 1, 1) := by decide +kernel
theorem dX12_term_5 : decode cX12_term 5 = .ok (.aload_n 0, 1) := by decide +kernel
theorem dX12_term_6 : decode cX12_term 6 = .ok (.getfield 135, 3) := by decide +kernel
theorem dX12_term_9 : decode cX12_term 9 = .ok (.iconst (-1), 1) := by decide +kernel
theorem dX12_term_10 : decode cX12_term 10 = .ok (.if_icmp .ne 84, 3) := by decide +kernel
theorem dX12_term_13 : decode cX12_term 13 = .ok (.aload_n 0, 1) := by decide +kernel
theorem dX12_term_14 : decode cX12_term 14 = .ok (.invokevirtual 145, 3) := by decide +kernel
theorem dX12_term_17 : decode cX12_term 17 = .ok (.bipush 42, 2) := by decide +kernel
theorem dX12_term_19 : decode cX12_term 19 = .ok (.if_icmp .eq 12, 3) := by decide +kernel
theorem dX12_term_22 : decode cX12_term 22 = .ok (.aload_n 0, 1) := by decide +kernel
theorem dX12_term_23 : decode cX12_term 23 = .ok (.invokevirtual 145, 3) := by decide +kernel
theorem dX12_term_26 : decode cX12_term 26 = .ok (.bipush 47, 2) := by decide +kernel
theorem dX12_term_28 : decode cX12_term 28 = .ok (.if_icmp .ne 66, 3) := by decide +kernel
theorem dX12_term_31 : decode cX12_term 31 = .ok (.aload_n 0, 1) := by decide +kernel
theorem dX12_term_32 : decode cX12_term 32 = .ok (.invokevirtual 145, 3) := by decide +kernel
theorem dX12_term_35 : decode cX12_term 35 = .ok (.bipush 42, 2) := by decide +kernel
theorem dX12_term_37 : decode cX12_term 37 = .ok (.if_icmp .ne 7, 3) := by decide +kernel
theorem dX12_term_40 : decode cX12_term 40 = .ok (.iconst 1, 1) := by decide +kernel
theorem dX12_term_41 : decode cX12_term 41 = .ok (.goto 4, 3) := by decide +kernel
theorem dX12_term_44 : decode cX12_term 44 = .ok (.iconst 0, 1) := by decide +kernel
theorem dX12_term_45 : decode cX12_term 45 = .ok (.istore_n 2, 1) := by decide +kernel
theorem dX12_term_46 : decode cX12_term 46 = .ok (.aload_n 0, 1) := by decide +kernel
theorem dX12_term_47 : decode cX12_term 47 = .ok (.dup, 1) := by decide +kernel
theorem dX12_term_48 : decode cX12_term 48 = .ok (.getfield 126, 3) := by decide +kernel
theorem dX12_term_51 : decode cX12_term 51 = .ok (.iconst 1, 1) := by decide +kernel
theorem dX12_term_52 : decode cX12_term 52 = .ok (.iadd, 1) := by decide +kernel
theorem dX12_term_53 : decode cX12_term 53 = .ok (.putfield 126, 3) := by decide +kernel
theorem dX12_term_56 : decode cX12_term 56 = .ok (.aload_n 0, 1) := by decide +kernel
theorem dX12_term_57 : decode cX12_term 57 = .ok (.invokevirtual 178, 3) := by decide +kernel
theorem dX12_term_60 : decode cX12_term 60 = .ok (.i2l, 1) := by decide +kernel
theorem dX12_term_61 : decode cX12_term 61 = .ok (.lstore_n 3, 1) := by decide +kernel
theorem dX12_term_62 : decode cX12_term 62 = .ok (.iload_n 2, 1) := by decide +kernel
theorem dX12_term_63 : decode cX12_term 63 = .ok (.ifCond .eq 10, 3) := by decide +kernel
theorem dX12_term_66 : decode cX12_term 66 = .ok (.iload_n 1, 1) := by decide +kernel
theorem dX12_term_67 : decode cX12_term 67 = .ok (.i2l, 1) := by decide +kernel
theorem dX12_term_68 : decode cX12_term 68 = .ok (.lload_n 3, 1) := by decide +kernel
theorem dX12_term_69 : decode cX12_term 69 = .ok (.lmul, 1) := by decide +kernel
theorem dX12_term_70 : decode cX12_term 70 = .ok (.goto 17, 3) := by decide +kernel
theorem dX12_term_73 : decode cX12_term 73 = .ok (.lload_n 3, 1) := by decide +kernel
theorem dX12_term_74 : decode cX12_term 74 = .ok (.lconst 0, 1) := by decide +kernel
theorem dX12_term_75 : decode cX12_term 75 = .ok (.lcmp, 1) := by decide +kernel
theorem dX12_term_76 : decode cX12_term 76 = .ok (.ifCond .ne 7, 3) := by decide +kernel
theorem dX12_term_79 : decode cX12_term 79 = .ok (.lconst 0, 1) := by decide +kernel
theorem dX12_term_80 : decode cX12_term 80 = .ok (.goto 7, 3) := by decide +kernel
theorem dX12_term_83 : decode cX12_term 83 = .ok (.iload_n 1, 1) := by decide +kernel
theorem dX12_term_84 : decode cX12_term 84 = .ok (.i2l, 1) := by decide +kernel
theorem dX12_term_85 : decode cX12_term 85 = .ok (.lload_n 3, 1) := by decide +kernel
theorem dX12_term_86 : decode cX12_term 86 = .ok (.ldiv, 1) := by decide +kernel
theorem dX12_term_87 : decode cX12_term 87 = .ok (.invokestatic 181, 3) := by decide +kernel
theorem dX12_term_90 : decode cX12_term 90 = .ok (.istore_n 1, 1) := by decide +kernel
theorem dX12_term_91 : decode cX12_term 91 = .ok (.goto (-86), 3) := by decide +kernel
theorem dX12_term_94 : decode cX12_term 94 = .ok (.iload_n 1, 1) := by decide +kernel
theorem dX12_term_95 : decode cX12_term 95 = .ok (.ireturn, 1) := by decide +kernel
theorem dX12_sum_0 : decode cX12_sum 0 = .ok (.aload_n 0, 1) := by decide +kernel
theorem dX12_sum_1 : decode cX12_sum 1 = .ok (.invokevirtual 185, 3) := by decide +kernel
theorem dX12_sum_4 : decode cX12_sum 4 = .ok (.istore_n 1, 1) := by decide +kernel
theorem dX12_sum_5 : decode cX12_sum 5 = .ok (.aload_n 0, 1) := by decide +kernel
theorem dX12_sum_6 : decode cX12_sum 6 = .ok (.getfield 135, 3) := by decide +kernel
theorem dX12_sum_9 : decode cX12_sum 9 = .ok (.iconst (-1), 1) := by decide +kernel
theorem dX12_sum_10 : decode cX12_sum 10 = .ok (.if_icmp .ne 74, 3) := by decide +kernel
theorem dX12_sum_13 : decode cX12_sum 13 = .ok (.aload_n 0, 1) := by decide +kernel
theorem dX12_sum_14 : decode cX12_sum 14 = .ok (.invokevirtual 145, 3) := by decide +kernel
theorem dX12_sum_17 : decode cX12_sum 17 = .ok (.bipush 43, 2) := by decide +kernel
theorem dX12_sum_19 : decode cX12_sum 19 = .ok (.if_icmp .eq 12, 3) := by decide +kernel
theorem dX12_sum_22 : decode cX12_sum 22 = .ok (.aload_n 0, 1) := by decide +kernel
theorem dX12_sum_23 : decode cX12_sum 23 = .ok (.invokevirtual 145, 3) := by decide +kernel
theorem dX12_sum_26 : decode cX12_sum 26 = .ok (.bipush 45, 2) := by decide +kernel
theorem dX12_sum_28 : decode cX12_sum 28 = .ok (.if_icmp .ne 56, 3) := by decide +kernel
theorem dX12_sum_31 : decode cX12_sum 31 = .ok (.aload_n 0, 1) := by decide +kernel
theorem dX12_sum_32 : decode cX12_sum 32 = .ok (.invokevirtual 145, 3) := by decide +kernel
theorem dX12_sum_35 : decode cX12_sum 35 = .ok (.bipush 43, 2) := by decide +kernel
theorem dX12_sum_37 : decode cX12_sum 37 = .ok (.if_icmp .ne 7, 3) := by decide +kernel
theorem dX12_sum_40 : decode cX12_sum 40 = .ok (.iconst 1, 1) := by decide +kernel
theorem dX12_sum_41 : decode cX12_sum 41 = .ok (.goto 4, 3) := by decide +kernel
theorem dX12_sum_44 : decode cX12_sum 44 = .ok (.iconst 0, 1) := by decide +kernel
theorem dX12_sum_45 : decode cX12_sum 45 = .ok (.istore_n 2, 1) := by decide +kernel
theorem dX12_sum_46 : decode cX12_sum 46 = .ok (.aload_n 0, 1) := by decide +kernel
theorem dX12_sum_47 : decode cX12_sum 47 = .ok (.dup, 1) := by decide +kernel
theorem dX12_sum_48 : decode cX12_sum 48 = .ok (.getfield 126, 3) := by decide +kernel
theorem dX12_sum_51 : decode cX12_sum 51 = .ok (.iconst 1, 1) := by decide +kernel
theorem dX12_sum_52 : decode cX12_sum 52 = .ok (.iadd, 1) := by decide +kernel
theorem dX12_sum_53 : decode cX12_sum 53 = .ok (.putfield 126, 3) := by decide +kernel
theorem dX12_sum_56 : decode cX12_sum 56 = .ok (.aload_n 0, 1) := by decide +kernel
theorem dX12_sum_57 : decode cX12_sum 57 = .ok (.invokevirtual 185, 3) := by decide +kernel
theorem dX12_sum_60 : decode cX12_sum 60 = .ok (.i2l, 1) := by decide +kernel
theorem dX12_sum_61 : decode cX12_sum 61 = .ok (.lstore_n 3, 1) := by decide +kernel
theorem dX12_sum_62 : decode cX12_sum 62 = .ok (.iload_n 2, 1) := by decide +kernel
theorem dX12_sum_63 : decode cX12_sum 63 = .ok (.ifCond .eq 10, 3) := by decide +kernel
theorem dX12_sum_66 : decode cX12_sum 66 = .ok (.iload_n 1, 1) := by decide +kernel
theorem dX12_sum_67 : decode cX12_sum 67 = .ok (.i2l, 1) := by decide +kernel
theorem dX12_sum_68 : decode cX12_sum 68 = .ok (.lload_n 3, 1) := by decide +kernel
theorem dX12_sum_69 : decode cX12_sum 69 = .ok (.ladd, 1) := by decide +kernel
theorem dX12_sum_70 : decode cX12_sum 70 = .ok (.goto 7, 3) := by decide +kernel
theorem dX12_sum_73 : decode cX12_sum 73 = .ok (.iload_n 1, 1) := by decide +kernel
theorem dX12_sum_74 : decode cX12_sum 74 = .ok (.i2l, 1) := by decide +kernel
theorem dX12_sum_75 : decode cX12_sum 75 = .ok (.lload_n 3, 1) := by decide +kernel
theorem dX12_sum_76 : decode cX12_sum 76 = .ok (.lsub, 1) := by decide +kernel
theorem dX12_sum_77 : decode cX12_sum 77 = .ok (.invokestatic 181, 3) := by decide +kernel
theorem dX12_sum_80 : decode cX12_sum 80 = .ok (.istore_n 1, 1) := by decide +kernel
theorem dX12_sum_81 : decode cX12_sum 81 = .ok (.goto (-76), 3) := by decide +kernel
theorem dX12_sum_84 : decode cX12_sum 84 = .ok (.iload_n 1, 1) := by decide +kernel
theorem dX12_sum_85 : decode cX12_sum 85 = .ok (.ireturn, 1) := by decide +kernel
theorem dX12_isSign_0 : decode cX12_isSign 0 = .ok (.iload_n 0, 1) := by decide +kernel
theorem dX12_isSign_1 : decode cX12_isSign 1 = .ok (.bipush 61, 2) := by decide +kernel
theorem dX12_isSign_3 : decode cX12_isSign 3 = .ok (.if_icmp .eq 15, 3) := by decide +kernel
theorem dX12_isSign_6 : decode cX12_isSign 6 = .ok (.iload_n 0, 1) := by decide +kernel
theorem dX12_isSign_7 : decode cX12_isSign 7 = .ok (.bipush 60, 2) := by decide +kernel
theorem dX12_isSign_9 : decode cX12_isSign 9 = .ok (.if_icmp .eq 9, 3) := by decide +kernel
theorem dX12_isSign_12 : decode cX12_isSign 12 = .ok (.iload_n 0, 1) := by decide +kernel
theorem dX12_isSign_13 : decode cX12_isSign 13 = .ok (.bipush 62, 2) := by decide +kernel
theorem dX12_isSign_15 : decode cX12_isSign 15 = .ok (.if_icmp .ne 7, 3) := by decide +kernel
theorem dX12_isSign_18 : decode cX12_isSign 18 = .ok (.iconst 1, 1) := by decide +kernel
theorem dX12_isSign_19 : decode cX12_isSign 19 = .ok (.goto 4, 3) := by decide +kernel
theorem dX12_isSign_22 : decode cX12_isSign 22 = .ok (.iconst 0, 1) := by decide +kernel
theorem dX12_isSign_23 : decode cX12_isSign 23 = .ok (.ireturn, 1) := by decide +kernel
theorem dX12_compares_0 : decode cX12_compares 0 = .ok (.iload_n 1, 1) := by decide +kernel
theorem dX12_compares_1 : decode cX12_compares 1 = .ok (.ifCond .eq 7, 3) := by decide +kernel
theorem dX12_compares_4 : decode cX12_compares 4 = .ok (.iload_n 2, 1) := by decide +kernel
theorem dX12_compares_5 : decode cX12_compares 5 = .ok (.goto 7, 3) := by decide +kernel
theorem dX12_compares_8 : decode cX12_compares 8 = .ok (.aload_n 0, 1) := by decide +kernel
theorem dX12_compares_9 : decode cX12_compares 9 = .ok (.invokevirtual 168, 3) := by decide +kernel
theorem dX12_compares_12 : decode cX12_compares 12 = .ok (.istore_n 3, 1) := by decide +kernel
theorem dX12_compares_13 : decode cX12_compares 13 = .ok (.aload_n 0, 1) := by decide +kernel
theorem dX12_compares_14 : decode cX12_compares 14 = .ok (.getfield 135, 3) := by decide +kernel
theorem dX12_compares_17 : decode cX12_compares 17 = .ok (.iconst (-1), 1) := by decide +kernel
theorem dX12_compares_18 : decode cX12_compares 18 = .ok (.if_icmp .eq 5, 3) := by decide +kernel
theorem dX12_compares_21 : decode cX12_compares 21 = .ok (.iconst 0, 1) := by decide +kernel
theorem dX12_compares_22 : decode cX12_compares 22 = .ok (.ireturn, 1) := by decide +kernel
theorem dX12_compares_23 : decode cX12_compares 23 = .ok (.aload_n 0, 1) := by decide +kernel
theorem dX12_compares_24 : decode cX12_compares 24 = .ok (.invokevirtual 145, 3) := by decide +kernel
theorem dX12_compares_27 : decode cX12_compares 27 = .ok (.istore 4, 2) := by decide +kernel
theorem dX12_compares_29 : decode cX12_compares 29 = .ok (.iload 4, 2) := by decide +kernel
theorem dX12_compares_31 : decode cX12_compares 31 = .ok (.invokestatic 188, 3) := by decide +kernel
theorem dX12_compares_34 : decode cX12_compares 34 = .ok (.ifCond .ne 8, 3) := by decide +kernel
theorem dX12_compares_37 : decode cX12_compares 37 = .ok (.aload_n 0, 1) := by decide +kernel
theorem dX12_compares_38 : decode cX12_compares 38 = .ok (.invokevirtual 141, 3) := by decide +kernel
theorem dX12_compares_41 : decode cX12_compares 41 = .ok (.ireturn, 1) := by decide +kernel
