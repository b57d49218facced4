theorem dX0_init_0 : decode cX0_init 0 = .ok (.aload_n 0, 1) := by decide +kernel
theorem dX0_init_1 : decode cX0_init 1 = .ok (.invokespecial 3, 3) := by decide +kernel
theorem dX0_init_4 : decode cX0_init 4 = .ok (.aload_n 0, 1) := by decide +kernel
theorem dX0_init_5 : decode cX0_init 5 = .ok (.sipush 1120, 3) := by decide +kernel
theorem dX0_init_8 : decode cX0_init 8 = .ok (.newarray .int, 2) := by decide +kernel
theorem dX0_init_10 : decode cX0_init 10 = .ok (.putfield 13, 3) := by decide +kernel
theorem dX0_init_13 : decode cX0_init 13 = .ok (.return_, 1) := by decide +kernel
theorem dX0_forget_0 : decode cX0_forget 0 = .ok (.aload_n 0, 1) := by decide +kernel
theorem dX0_forget_1 : decode cX0_forget 1 = .ok (.iconst 0, 1) := by decide +kernel
theorem dX0_forget_2 : decode cX0_forget 2 = .ok (.putfield 17, 3) := by decide +kernel
theorem dX0_forget_5 : decode cX0_forget 5 = .ok (.return_, 1) := by decide +kernel
theorem dX0_keep_0 : decode cX0_keep 0 = .ok (.aload_n 1, 1) := by decide +kernel
theorem dX0_keep_1 : decode cX0_keep 1 = .ok (.aload_n 0, 1) := by decide +kernel
theorem dX0_keep_2 : decode cX0_keep 2 = .ok (.getfield 13, 3) := by decide +kernel
theorem dX0_keep_5 : decode cX0_keep 5 = .ok (.aload_n 0, 1) := by decide +kernel
theorem dX0_keep_6 : decode cX0_keep 6 = .ok (.getfield 21, 3) := by decide +kernel
theorem dX0_keep_9 : decode cX0_keep 9 = .ok (.bipush 28, 2) := by decide +kernel
theorem dX0_keep_11 : decode cX0_keep 11 = .ok (.imul, 1) := by decide +kernel
theorem dX0_keep_12 : decode cX0_keep 12 = .ok (.invokevirtual 24, 3) := by decide +kernel
theorem dX0_keep_15 : decode cX0_keep 15 = .ok (.aload_n 0, 1) := by decide +kernel
theorem dX0_keep_16 : decode cX0_keep 16 = .ok (.aload_n 0, 1) := by decide +kernel
theorem dX0_keep_17 : decode cX0_keep 17 = .ok (.getfield 21, 3) := by decide +kernel
theorem dX0_keep_20 : decode cX0_keep 20 = .ok (.iconst 1, 1) := by decide +kernel
theorem dX0_keep_21 : decode cX0_keep 21 = .ok (.iadd, 1) := by decide +kernel
theorem dX0_keep_22 : decode cX0_keep 22 = .ok (.bipush 40, 2) := by decide +kernel
theorem dX0_keep_24 : decode cX0_keep 24 = .ok (.if_icmp .ge 12, 3) := by decide +kernel
theorem dX0_keep_27 : decode cX0_keep 27 = .ok (.aload_n 0, 1) := by decide +kernel
theorem dX0_keep_28 : decode cX0_keep 28 = .ok (.getfield 21, 3) := by decide +kernel
theorem dX0_keep_31 : decode cX0_keep 31 = .ok (.iconst 1, 1) := by decide +kernel
theorem dX0_keep_32 : decode cX0_keep 32 = .ok (.iadd, 1) := by decide +kernel
theorem dX0_keep_33 : decode cX0_keep 33 = .ok (.goto 4, 3) := by decide +kernel
theorem dX0_keep_36 : decode cX0_keep 36 = .ok (.iconst 0, 1) := by decide +kernel
theorem dX0_keep_37 : decode cX0_keep 37 = .ok (.putfield 21, 3) := by decide +kernel
theorem dX0_keep_40 : decode cX0_keep 40 = .ok (.aload_n 0, 1) := by decide +kernel
theorem dX0_keep_41 : decode cX0_keep 41 = .ok (.bipush 40, 2) := by decide +kernel
theorem dX0_keep_43 : decode cX0_keep 43 = .ok (.aload_n 0, 1) := by decide +kernel
theorem dX0_keep_44 : decode cX0_keep 44 = .ok (.getfield 17, 3) := by decide +kernel
theorem dX0_keep_47 : decode cX0_keep 47 = .ok (.iconst 1, 1) := by decide +kernel
theorem dX0_keep_48 : decode cX0_keep 48 = .ok (.iadd, 1) := by decide +kernel
theorem dX0_keep_49 : decode cX0_keep 49 = .ok (.invokestatic 28, 3) := by decide +kernel
theorem dX0_keep_52 : decode cX0_keep 52 = .ok (.putfield 17, 3) := by decide +kernel
theorem dX0_keep_55 : decode cX0_keep 55 = .ok (.return_, 1) := by decide +kernel
theorem dX0_takeBack_0 : decode cX0_takeBack 0 = .ok (.aload_n 0, 1) := by decide +kernel
theorem dX0_takeBack_1 : decode cX0_takeBack 1 = .ok (.getfield 17, 3) := by decide +kernel
theorem dX0_takeBack_4 : decode cX0_takeBack 4 = .ok (.ifCond .ne 5, 3) := by decide +kernel
theorem dX0_takeBack_7 : decode cX0_takeBack 7 = .ok (.iconst (-1), 1) := by decide +kernel
theorem dX0_takeBack_8 : decode cX0_takeBack 8 = .ok (.ireturn, 1) := by decide +kernel
theorem dX0_takeBack_9 : decode cX0_takeBack 9 = .ok (.aload_n 0, 1) := by decide +kernel
theorem dX0_takeBack_10 : decode cX0_takeBack 10 = .ok (.aload_n 0, 1) := by decide +kernel
theorem dX0_takeBack_11 : decode cX0_takeBack 11 = .ok (.getfield 21, 3) := by decide +kernel
theorem dX0_takeBack_14 : decode cX0_takeBack 14 = .ok (.ifCond .le 12, 3) := by decide +kernel
theorem dX0_takeBack_17 : decode cX0_takeBack 17 = .ok (.aload_n 0, 1) := by decide +kernel
theorem dX0_takeBack_18 : decode cX0_takeBack 18 = .ok (.getfield 21, 3) := by decide +kernel
theorem dX0_takeBack_21 : decode cX0_takeBack 21 = .ok (.iconst 1, 1) := by decide +kernel
theorem dX0_takeBack_22 : decode cX0_takeBack 22 = .ok (.isub, 1) := by decide +kernel
theorem dX0_takeBack_23 : decode cX0_takeBack 23 = .ok (.goto 5, 3) := by decide +kernel
theorem dX0_takeBack_26 : decode cX0_takeBack 26 = .ok (.bipush 39, 2) := by decide +kernel
theorem dX0_takeBack_28 : decode cX0_takeBack 28 = .ok (.putfield 21, 3) := by decide +kernel
theorem dX0_takeBack_31 : decode cX0_takeBack 31 = .ok (.aload_n 1, 1) := by decide +kernel
theorem dX0_takeBack_32 : decode cX0_takeBack 32 = .ok (.aload_n 0, 1) := by decide +kernel
theorem dX0_takeBack_33 : decode cX0_takeBack 33 = .ok (.getfield 13, 3) := by decide +kernel
theorem dX0_takeBack_36 : decode cX0_takeBack 36 = .ok (.aload_n 0, 1) := by decide +kernel
theorem dX0_takeBack_37 : decode cX0_takeBack 37 = .ok (.getfield 21, 3) := by decide +kernel
theorem dX0_takeBack_40 : decode cX0_takeBack 40 = .ok (.bipush 28, 2) := by decide +kernel
theorem dX0_takeBack_42 : decode cX0_takeBack 42 = .ok (.imul, 1) := by decide +kernel
theorem dX0_takeBack_43 : decode cX0_takeBack 43 = .ok (.invokevirtual 34, 3) := by decide +kernel
theorem dX0_takeBack_46 : decode cX0_takeBack 46 = .ok (.aload_n 0, 1) := by decide +kernel
theorem dX0_takeBack_47 : decode cX0_takeBack 47 = .ok (.dup, 1) := by decide +kernel
theorem dX0_takeBack_48 : decode cX0_takeBack 48 = .ok (.getfield 17, 3) := by decide +kernel
theorem dX0_takeBack_51 : decode cX0_takeBack 51 = .ok (.iconst 1, 1) := by decide +kernel
theorem dX0_takeBack_52 : decode cX0_takeBack 52 = .ok (.isub, 1) := by decide +kernel
theorem dX0_takeBack_53 : decode cX0_takeBack 53 = .ok (.putfield 17, 3) := by decide +kernel
theorem dX0_takeBack_56 : decode cX0_takeBack 56 = .ok (.aload_n 0, 1) := by decide +kernel
theorem dX0_takeBack_57 : decode cX0_takeBack 57 = .ok (.getfield 17, 3) := by decide +kernel
theorem dX0_takeBack_60 : decode cX0_takeBack 60 = .ok (.ireturn, 1) := by decide +kernel
theorem dX1_init_0 : decode cX1_init 0 = .ok (.aload_n 0, 1) := by decide +kernel
theorem dX1_init_1 : decode cX1_init 1 = .ok (.invokespecial 3, 3) := by decide +kernel
theorem dX1_init_4 : decode cX1_init 4 = .ok (.aload_n 0, 1) := by decide +kernel
theorem dX1_init_5 : decode cX1_init 5 = .ok (.iconst 3, 1) := by decide +kernel
theorem dX1_init_6 : decode cX1_init 6 = .ok (.newarray .int, 2) := by decide +kernel
theorem dX1_init_8 : decode cX1_init 8 = .ok (.putfield 9, 3) := by decide +kernel
theorem dX1_init_11 : decode cX1_init 11 = .ok (.aload_n 0, 1) := by decide +kernel
theorem dX1_init_12 : decode cX1_init 12 = .ok (.bipush 7, 2) := by decide +kernel
theorem dX1_init_14 : decode cX1_init 14 = .ok (.iconst 5, 1) := by decide +kernel
theorem dX1_init_15 : decode cX1_init 15 = .ok (.multianewarray 15 2, 4) := by decide +kernel
theorem dX1_init_19 : decode cX1_init 19 = .ok (.putfield 17, 3) := by decide +kernel
theorem dX1_init_22 : decode cX1_init 22 = .ok (.aload_n 0, 1) := by decide +kernel
theorem dX1_init_23 : decode cX1_init 23 = .ok (.bipush 8, 2) := by decide +kernel
theorem dX1_init_25 : decode cX1_init 25 = .ok (.bipush 8, 2) := by decide +kernel
theorem dX1_init_27 : decode cX1_init 27 = .ok (.multianewarray 15 2, 4) := by decide +kernel
theorem dX1_init_31 : decode cX1_init 31 = .ok (.putfield 20, 3) := by decide +kernel
theorem dX1_init_34 : decode cX1_init 34 = .ok (.return_, 1) := by decide +kernel
theorem dX1_copyFrom_0 : decode cX1_copyFrom 0 = .ok (.aload_n 1, 1) := by decide +kernel
theorem dX1_copyFrom_1 : decode cX1_copyFrom 1 = .ok (.getfield 9, 3) := by decide +kernel
theorem dX1_copyFrom_4 : decode cX1_copyFrom 4 = .ok (.iconst 0, 1) := by decide +kernel
theorem dX1_copyFrom_5 : decode cX1_copyFrom 5 = .ok (.aload_n 0, 1) := by decide +kernel
theorem dX1_copyFrom_6 : decode cX1_copyFrom 6 = .ok (.getfield 9, 3) := by decide +kernel
theorem dX1_copyFrom_9 : decode cX1_copyFrom 9 = .ok (.iconst 0, 1) := by decide +kernel
theorem dX1_copyFrom_10 : decode cX1_copyFrom 10 = .ok (.aload_n 0, 1) := by decide +kernel
theorem dX1_copyFrom_11 : decode cX1_copyFrom 11 = .ok (.getfield 9, 3) := by decide +kernel
theorem dX1_copyFrom_14 : decode cX1_copyFrom 14 = .ok (.arraylength, 1) := by decide +kernel
theorem dX1_copyFrom_15 : decode cX1_copyFrom 15 = .ok (.invokestatic 23, 3) := by decide +kernel
theorem dX1_copyFrom_18 : decode cX1_copyFrom 18 = .ok (.iconst 0, 1) := by decide +kernel
theorem dX1_copyFrom_19 : decode cX1_copyFrom 19 = .ok (.istore_n 2, 1) := by decide +kernel
theorem dX1_copyFrom_20 : decode cX1_copyFrom 20 = .ok (.iload_n 2, 1) := by decide +kernel
theorem dX1_copyFrom_21 : decode cX1_copyFrom 21 = .ok (.bipush 7, 2) := by decide +kernel
theorem dX1_copyFrom_23 : decode cX1_copyFrom 23 = .ok (.if_icmp .ge 33, 3) := by decide +kernel
theorem dX1_copyFrom_26 : decode cX1_copyFrom 26 = .ok (.aload_n 1, 1) := by decide +kernel
theorem dX1_copyFrom_27 : decode cX1_copyFrom 27 = .ok (.getfield 17, 3) := by decide +kernel
theorem dX1_copyFrom_30 : decode cX1_copyFrom 30 = .ok (.iload_n 2, 1) := by decide +kernel
theorem dX1_copyFrom_31 : decode cX1_copyFrom 31 = .ok (.aaload, 1) := by decide +kernel
theorem dX1_copyFrom_32 : decode cX1_copyFrom 32 = .ok (.iconst 0, 1) := by decide +kernel
theorem dX1_copyFrom_33 : decode cX1_copyFrom 33 = .ok (.aload_n 0, 1) := by decide +kernel
theorem dX1_copyFrom_34 : decode cX1_copyFrom 34 = .ok (.getfield 17, 3) := by decide +kernel
theorem dX1_copyFrom_37 : decode cX1_copyFrom 37 = .ok (.iload_n 2, 1) := by decide +kernel
theorem dX1_copyFrom_38 : decode cX1_copyFrom 38 = .ok (.aaload, 1) := by decide +kernel
theorem dX1_copyFrom_39 : decode cX1_copyFrom 39 = .ok (.iconst 0, 1) := by decide +kernel
theorem dX1_copyFrom_40 : decode cX1_copyFrom 40 = .ok (.aload_n 0, 1) := by decide +kernel
theorem dX1_copyFrom_41 : decode cX1_copyFrom 41 = .ok (.getfield 17, 3) := by decide +kernel
theorem dX1_copyFrom_44 : decode cX1_copyFrom 44 = .ok (.iload_n 2, 1) := by decide +kernel
theorem dX1_copyFrom_45 : decode cX1_copyFrom 45 = .ok (.aaload, 1) := by decide +kernel
theorem dX1_copyFrom_46 : decode cX1_copyFrom 46 = .ok (.arraylength, 1) := by decide +kernel
theorem dX1_copyFrom_47 : decode cX1_copyFrom 47 = .ok (.invokestatic 23, 3) := by decide +kernel
theorem dX1_copyFrom_50 : decode cX1_copyFrom 50 = .ok (.iinc 2 1, 3) := by decide +kernel
theorem dX1_copyFrom_53 : decode cX1_copyFrom 53 = .ok (.goto (-33), 3) := by decide +kernel
theorem dX1_copyFrom_56 : decode cX1_copyFrom 56 = .ok (.aload_n 0, 1) := by decide +kernel
theorem dX1_copyFrom_57 : decode cX1_copyFrom 57 = .ok (.aload_n 1, 1) := by decide +kernel
theorem dX1_copyFrom_58 : decode cX1_copyFrom 58 = .ok (.getfield 29, 3) := by decide +kernel
theorem dX1_copyFrom_61 : decode cX1_copyFrom 61 = .ok (.putfield 29, 3) := by decide +kernel
theorem dX1_copyFrom_64 : decode cX1_copyFrom 64 = .ok (.aload_n 0, 1) := by decide +kernel
theorem dX1_copyFrom_65 : decode cX1_copyFrom 65 = .ok (.invokevirtual 33, 3) := by decide +kernel
theorem dX1_copyFrom_68 : decode cX1_copyFrom 68 = .ok (.return_, 1) := by decide +kernel
theorem dX1_measure_0 : decode cX1_measure 0 = .ok (.iconst (-1), 1) := by decide +kernel
theorem dX1_measure_1 : decode cX1_measure 1 = .ok (.istore_n 1, 1) := by decide +kernel
theorem dX1_measure_2 : decode cX1_measure 2 = .ok (.iload_n 1, 1) := by decide +kernel
theorem dX1_measure_3 : decode cX1_measure 3 = .ok (.aload_n 0, 1) := by decide +kernel
theorem dX1_measure_4 : decode cX1_measure 4 = .ok (.getfield 29, 3) := by decide +kernel
theorem dX1_measure_7 : decode cX1_measure 7 = .ok (.if_icmp .ge 70, 3) := by decide +kernel
theorem dX1_measure_10 : decode cX1_measure 10 = .ok (.iconst (-1), 1) := by decide +kernel
theorem dX1_measure_11 : decode cX1_measure 11 = .ok (.istore_n 2, 1) := by decide +kernel
theorem dX1_measure_12 : decode cX1_measure 12 = .ok (.iload_n 2, 1) := by decide +kernel
theorem dX1_measure_13 : decode cX1_measure 13 = .ok (.aload_n 0, 1) := by decide +kernel
theorem dX1_measure_14 : decode cX1_measure 14 = .ok (.getfield 29, 3) := by decide +kernel
theorem dX1_measure_17 : decode cX1_measure 17 = .ok (.if_icmp .ge 54, 3) := by decide +kernel
theorem dX1_measure_20 : decode cX1_measure 20 = .ok (.aload_n 0, 1) := by decide +kernel
theorem dX1_measure_21 : decode cX1_measure 21 = .ok (.getfield 20, 3) := by decide +kernel
theorem dX1_measure_24 : decode cX1_measure 24 = .ok (.iload_n 1, 1) := by decide +kernel
theorem dX1_measure_25 : decode cX1_measure 25 = .ok (.iconst 1, 1) := by decide +kernel
theorem dX1_measure_26 : decode cX1_measure 26 = .ok (.iadd, 1) := by decide +kernel
theorem dX1_measure_27 : decode cX1_measure 27 = .ok (.aaload, 1) := by decide +kernel
theorem dX1_measure_28 : decode cX1_measure 28 = .ok (.iload_n 2, 1) := by decide +kernel
theorem dX1_measure_29 : decode cX1_measure 29 = .ok (.iconst 1, 1) := by decide +kernel
theorem dX1_measure_30 : decode cX1_measure 30 = .ok (.iadd, 1) := by decide +kernel
theorem dX1_measure_31 : decode cX1_measure 31 = .ok (.aload_n 0, 1) := by decide +kernel
theorem dX1_measure_32 : decode cX1_measure 32 = .ok (.iload_n 1, 1) := by decide +kernel
theorem dX1_measure_33 : decode cX1_measure 33 = .ok (.iconst 0, 1) := by decide +kernel
theorem dX1_measure_34 : decode cX1_measure 34 = .ok (.invokevirtual 36, 3) := by decide +kernel
theorem dX1_measure_37 : decode cX1_measure 37 = .ok (.aload_n 0, 1) := by decide +kernel
theorem dX1_measure_38 : decode cX1_measure 38 = .ok (.iload_n 2, 1) := by decide +kernel
theorem dX1_measure_39 : decode cX1_measure 39 = .ok (.iconst 0, 1) := by decide +kernel
theorem dX1_measure_40 : decode cX1_measure 40 = .ok (.invokevirtual 36, 3) := by decide +kernel
theorem dX1_measure_43 : decode cX1_measure 43 = .ok (.isub, 1) := by decide +kernel
theorem dX1_measure_44 : decode cX1_measure 44 = .ok (.invokestatic 40, 3) := by decide +kernel
theorem dX1_measure_47 : decode cX1_measure 47 = .ok (.aload_n 0, 1) := by decide +kernel
theorem dX1_measure_48 : decode cX1_measure 48 = .ok (.iload_n 1, 1) := by decide +kernel
theorem dX1_measure_49 : decode cX1_measure 49 = .ok (.iconst 1, 1) := by decide +kernel
theorem dX1_measure_50 : decode cX1_measure 50 = .ok (.invokevirtual 36, 3) := by decide +kernel
theorem dX1_measure_53 : decode cX1_measure 53 = .ok (.aload_n 0, 1) := by decide +kernel
theorem dX1_measure_54 : decode cX1_measure 54 = .ok (.iload_n 2, 1) := by decide +kernel
theorem dX1_measure_55 : decode cX1_measure 55 = .ok (.iconst 1, 1) := by decide +kernel
theorem dX1_measure_56 : decode cX1_measure 56 = .ok (.invokevirtual 36, 3) := by decide +kernel
theorem dX1_measure_59 : decode cX1_measure 59 = .ok (.isub, 1) := by decide +kernel
theorem dX1_measure_60 : decode cX1_measure 60 = .ok (.invokestatic 40, 3) := by decide +kernel
theorem dX1_measure_63 : decode cX1_measure 63 = .ok (.iadd, 1) := by decide +kernel
theorem dX1_measure_64 : decode cX1_measure 64 = .ok (.iastore, 1) := by decide +kernel
theorem dX1_measure_65 : decode cX1_measure 65 = .ok (.iinc 2 1, 3) := by decide +kernel
theorem dX1_measure_68 : decode cX1_measure 68 = .ok (.goto (-56), 3) := by decide +kernel
theorem dX1_measure_71 : decode cX1_measure 71 = .ok (.iinc 1 1, 3) := by decide +kernel
theorem dX1_measure_74 : decode cX1_measure 74 = .ok (.goto (-72), 3) := by decide +kernel
theorem dX1_measure_77 : decode cX1_measure 77 = .ok (.return_, 1) := by decide +kernel
theorem dX1_isThere_0 : decode cX1_isThere 0 = .ok (.aload_n 0, 1) := by decide +kernel
theorem dX1_isThere_1 : decode cX1_isThere 1 = .ok (.getfield 29, 3) := by decide +kernel
theorem dX1_isThere_4 : decode cX1_isThere 4 = .ok (.ifCond .le 7, 3) := by decide +kernel
theorem dX1_isThere_7 : decode cX1_isThere 7 = .ok (.iconst 1, 1) := by decide +kernel
theorem dX1_isThere_8 : decode cX1_isThere 8 = .ok (.goto 4, 3) := by decide +kernel
theorem dX1_isThere_11 : decode cX1_isThere 11 = .ok (.iconst 0, 1) := by decide +kernel
theorem dX1_isThere_12 : decode cX1_isThere 12 = .ok (.ireturn, 1) := by decide +kernel
theorem dX1_isPlace_0 : decode cX1_isPlace 0 = .ok (.iload_n 1, 1) := by decide +kernel
theorem dX1_isPlace_1 : decode cX1_isPlace 1 = .ok (.ifCond .lt 15, 3) := by decide +kernel
theorem dX1_isPlace_4 : decode cX1_isPlace 4 = .ok (.iload_n 1, 1) := by decide +kernel
theorem dX1_isPlace_5 : decode cX1_isPlace 5 = .ok (.aload_n 0, 1) := by decide +kernel
theorem dX1_isPlace_6 : decode cX1_isPlace 6 = .ok (.getfield 29, 3) := by decide +kernel
theorem dX1_isPlace_9 : decode cX1_isPlace 9 = .ok (.if_icmp .ge 7, 3) := by decide +kernel
theorem dX1_isPlace_12 : decode cX1_isPlace 12 = .ok (.iconst 1, 1) := by decide +kernel
theorem dX1_isPlace_13 : decode cX1_isPlace 13 = .ok (.goto 4, 3) := by decide +kernel
theorem dX1_isPlace_16 : decode cX1_isPlace 16 = .ok (.iconst 0, 1) := by decide +kernel
theorem dX1_isPlace_17 : decode cX1_isPlace 17 = .ok (.ireturn, 1) := by decide +kernel
theorem dX1_isSet_0 : decode cX1_isSet 0 = .ok (.iload_n 1, 1) := by decide +kernel
theorem dX1_isSet_1 : decode cX1_isSet 1 = .ok (.ifCond .le 17, 3) := by decide +kernel
theorem dX1_isSet_4 : decode cX1_isSet 4 = .ok (.iload_n 1, 1) := by decide +kernel
theorem dX1_isSet_5 : decode cX1_isSet 5 = .ok (.iconst 1, 1) := by decide +kernel
theorem dX1_isSet_6 : decode cX1_isSet 6 = .ok (.aload_n 0, 1) := by decide +kernel
theorem dX1_isSet_7 : decode cX1_isSet 7 = .ok (.getfield 29, 3) := by decide +kernel
theorem dX1_isSet_10 : decode cX1_isSet 10 = .ok (.ishl, 1) := by decide +kernel
theorem dX1_isSet_11 : decode cX1_isSet 11 = .ok (.if_icmp .ge 7, 3) := by decide +kernel
theorem dX1_isSet_14 : decode cX1_isSet 14 = .ok (.iconst 1, 1) := by decide +kernel
theorem dX1_isSet_15 : decode cX1_isSet 15 = .ok (.goto 4, 3) := by decide +kernel
theorem dX1_isSet_18 : decode cX1_isSet 18 = .ok (.iconst 0, 1) := by decide +kernel
theorem dX1_isSet_19 : decode cX1_isSet 19 = .ok (.ireturn, 1) := by decide +kernel
theorem dX1_toldOf_0 : decode cX1_toldOf 0 = .ok (.aload_n 0, 1) := by decide +kernel
theorem dX1_toldOf_1 : decode cX1_toldOf 1 = .ok (.iload_n 1, 1) := by decide +kernel
theorem dX1_toldOf_2 : decode cX1_toldOf 2 = .ok (.invokevirtual 46, 3) := by decide +kernel
theorem dX1_toldOf_5 : decode cX1_toldOf 5 = .ok (.ifCond .eq 23, 3) := by decide +kernel
theorem dX1_toldOf_8 : decode cX1_toldOf 8 = .ok (.iload_n 2, 1) := by decide +kernel
theorem dX1_toldOf_9 : decode cX1_toldOf 9 = .ok (.ifCond .lt 19, 3) := by decide +kernel
theorem dX1_toldOf_12 : decode cX1_toldOf 12 = .ok (.iload_n 2, 1) := by decide +kernel
theorem dX1_toldOf_13 : decode cX1_toldOf 13 = .ok (.iconst 4, 1) := by decide +kernel
theorem dX1_toldOf_14 : decode cX1_toldOf 14 = .ok (.if_icmp .gt 14, 3) := by decide +kernel
theorem dX1_toldOf_17 : decode cX1_toldOf 17 = .ok (.aload_n 0, 1) := by decide +kernel
theorem dX1_toldOf_18 : decode cX1_toldOf 18 = .ok (.getfield 17, 3) := by decide +kernel
theorem dX1_toldOf_21 : decode cX1_toldOf 21 = .ok (.iload_n 1, 1) := by decide +kernel
theorem dX1_toldOf_22 : decode cX1_toldOf 22 = .ok (.aaload, 1) := by decide +kernel
theorem dX1_toldOf_23 : decode cX1_toldOf 23 = .ok (.iload_n 2, 1) := by decide +kernel
theorem dX1_toldOf_24 : decode cX1_toldOf 24 = .ok (.iaload, 1) := by decide +kernel
theorem dX1_toldOf_25 : decode cX1_toldOf 25 = .ok (.goto 4, 3) := by decide +kernel
theorem dX1_toldOf_28 : decode cX1_toldOf 28 = .ok (.iconst 0, 1) := by decide +kernel
theorem dX1_toldOf_29 : decode cX1_toldOf 29 = .ok (.ireturn, 1) := by decide +kernel
theorem dX1_apart_0 : decode cX1_apart 0 = .ok (.iload_n 1, 1) := by decide +kernel
theorem dX1_apart_1 : decode cX1_apart 1 = .ok (.iconst (-1), 1) := by decide +kernel
theorem dX1_apart_2 : decode cX1_apart 2 = .ok (.if_icmp .lt 39, 3) := by decide +kernel
theorem dX1_apart_5 : decode cX1_apart 5 = .ok (.iload_n 1, 1) := by decide +kernel
theorem dX1_apart_6 : decode cX1_apart 6 = .ok (.aload_n 0, 1) := by decide +kernel
theorem dX1_apart_7 : decode cX1_apart 7 = .ok (.getfield 29, 3) := by decide +kernel
theorem dX1_apart_10 : decode cX1_apart 10 = .ok (.if_icmp .ge 31, 3) := by decide +kernel
theorem dX1_apart_13 : decode cX1_apart 13 = .ok (.iload_n 2, 1) := by decide +kernel
theorem dX1_apart_14 : decode cX1_apart 14 = .ok (.iconst (-1), 1) := by decide +kernel
theorem dX1_apart_15 : decode cX1_apart 15 = .ok (.if_icmp .lt 26, 3) := by decide +kernel
theorem dX1_apart_18 : decode cX1_apart 18 = .ok (.iload_n 2, 1) := by decide +kernel
theorem dX1_apart_19 : decode cX1_apart 19 = .ok (.aload_n 0, 1) := by decide +kernel
theorem dX1_apart_20 : decode cX1_apart 20 = .ok (.getfield 29, 3) := by decide +kernel
theorem dX1_apart_23 : decode cX1_apart 23 = .ok (.if_icmp .ge 18, 3) := by decide +kernel
theorem dX1_apart_26 : decode cX1_apart 26 = .ok (.aload_n 0, 1) := by decide +kernel
theorem dX1_apart_27 : decode cX1_apart 27 = .ok (.getfield 20, 3) := by decide +kernel
theorem dX1_apart_30 : decode cX1_apart 30 = .ok (.iload_n 1, 1) := by decide +kernel
theorem dX1_apart_31 : decode cX1_apart 31 = .ok (.iconst 1, 1) := by decide +kernel
theorem dX1_apart_32 : decode cX1_apart 32 = .ok (.iadd, 1) := by decide +kernel
theorem dX1_apart_33 : decode cX1_apart 33 = .ok (.aaload, 1) := by decide +kernel
theorem dX1_apart_34 : decode cX1_apart 34 = .ok (.iload_n 2, 1) := by decide +kernel
theorem dX1_apart_35 : decode cX1_apart 35 = .ok (.iconst 1, 1) := by decide +kernel
theorem dX1_apart_36 : decode cX1_apart 36 = .ok (.iadd, 1) := by decide +kernel
theorem dX1_apart_37 : decode cX1_apart 37 = .ok (.iaload, 1) := by decide +kernel
theorem dX1_apart_38 : decode cX1_apart 38 = .ok (.goto 4, 3) := by decide +kernel
theorem dX1_apart_41 : decode cX1_apart 41 = .ok (.iconst 0, 1) := by decide +kernel
theorem dX1_apart_42 : decode cX1_apart 42 = .ok (.ireturn, 1) := by decide +kernel
theorem dX1_hasTwoInOne_0 : decode cX1_hasTwoInOne 0 = .ok (.iconst 0, 1) := by decide +kernel
theorem dX1_hasTwoInOne_1 : decode cX1_hasTwoInOne 1 = .ok (.istore_n 1, 1) := by decide +kernel
theorem dX1_hasTwoInOne_2 : decode cX1_hasTwoInOne 2 = .ok (.iload_n 1, 1) := by decide +kernel
theorem dX1_hasTwoInOne_3 : decode cX1_hasTwoInOne 3 = .ok (.aload_n 0, 1) := by decide +kernel
theorem dX1_hasTwoInOne_4 : decode cX1_hasTwoInOne 4 = .ok (.getfield 29, 3) := by decide +kernel
theorem dX1_hasTwoInOne_7 : decode cX1_hasTwoInOne 7 = .ok (.if_icmp .ge 33, 3) := by decide +kernel
theorem dX1_hasTwoInOne_10 : decode cX1_hasTwoInOne 10 = .ok (.iconst 0, 1) := by decide +kernel
theorem dX1_hasTwoInOne_11 : decode cX1_hasTwoInOne 11 = .ok (.istore_n 2, 1) := by decide +kernel
theorem dX1_hasTwoInOne_12 : decode cX1_hasTwoInOne 12 = .ok (.iload_n 2, 1) := by decide +kernel
theorem dX1_hasTwoInOne_13 : decode cX1_hasTwoInOne 13 = .ok (.iload_n 1, 1) := by decide +kernel
theorem dX1_hasTwoInOne_14 : decode cX1_hasTwoInOne 14 = .ok (.if_icmp .ge 20, 3) := by decide +kernel
theorem dX1_hasTwoInOne_17 : decode cX1_hasTwoInOne 17 = .ok (.aload_n 0, 1) := by decide +kernel
theorem dX1_hasTwoInOne_18 : decode cX1_hasTwoInOne 18 = .ok (.iload_n 1, 1) := by decide +kernel
theorem dX1_hasTwoInOne_19 : decode cX1_hasTwoInOne 19 = .ok (.iload_n 2, 1) := by decide +kernel
theorem dX1_hasTwoInOne_20 : decode cX1_hasTwoInOne 20 = .ok (.invokevirtual 50, 3) := by decide +kernel
theorem dX1_hasTwoInOne_23 : decode cX1_hasTwoInOne 23 = .ok (.ifCond .ne 5, 3) := by decide +kernel
theorem dX1_hasTwoInOne_26 : decode cX1_hasTwoInOne 26 = .ok (.iconst 1, 1) := by decide +kernel
theorem dX1_hasTwoInOne_27 : decode cX1_hasTwoInOne 27 = .ok (.ireturn, 1) := by decide +kernel
theorem dX1_hasTwoInOne_28 : decode cX1_hasTwoInOne 28 = .ok (.iinc 2 1, 3) := by decide +kernel
theorem dX1_hasTwoInOne_31 : decode cX1_hasTwoInOne 31 = .ok (.goto (-19), 3) := by decide +kernel
theorem dX1_hasTwoInOne_34 : decode cX1_hasTwoInOne 34 = .ok (.iinc 1 1, 3) := by decide +kernel
theorem dX1_hasTwoInOne_37 : decode cX1_hasTwoInOne 37 = .ok (.goto (-35), 3) := by decide +kernel
theorem dX1_hasTwoInOne_40 : decode cX1_hasTwoInOne 40 = .ok (.iconst 0, 1) := by decide +kernel
theorem dX1_hasTwoInOne_41 : decode cX1_hasTwoInOne 41 = .ok (.ireturn, 1) := by decide +kernel
theorem dX1_spread_0 : decode cX1_spread 0 = .ok (.iconst 0, 1) := by decide +kernel
theorem dX1_spread_1 : decode cX1_spread 1 = .ok (.istore_n 1, 1) := by decide +kernel
theorem dX1_spread_2 : decode cX1_spread 2 = .ok (.iconst 0, 1) := by decide +kernel
theorem dX1_spread_3 : decode cX1_spread 3 = .ok (.istore_n 2, 1) := by decide +kernel
theorem dX1_spread_4 : decode cX1_spread 4 = .ok (.iload_n 2, 1) := by decide +kernel
theorem dX1_spread_5 : decode cX1_spread 5 = .ok (.aload_n 0, 1) := by decide +kernel
theorem dX1_spread_6 : decode cX1_spread 6 = .ok (.getfield 29, 3) := by decide +kernel
theorem dX1_spread_9 : decode cX1_spread 9 = .ok (.if_icmp .ge 33, 3) := by decide +kernel
theorem dX1_spread_12 : decode cX1_spread 12 = .ok (.iconst 0, 1) := by decide +kernel
theorem dX1_spread_13 : decode cX1_spread 13 = .ok (.istore_n 3, 1) := by decide +kernel
theorem dX1_spread_14 : decode cX1_spread 14 = .ok (.iload_n 3, 1) := by decide +kernel
theorem dX1_spread_15 : decode cX1_spread 15 = .ok (.iload_n 2, 1) := by decide +kernel
theorem dX1_spread_16 : decode cX1_spread 16 = .ok (.if_icmp .ge 20, 3) := by decide +kernel
theorem dX1_spread_19 : decode cX1_spread 19 = .ok (.iload_n 1, 1) := by decide +kernel
theorem dX1_spread_20 : decode cX1_spread 20 = .ok (.aload_n 0, 1) := by decide +kernel
theorem dX1_spread_21 : decode cX1_spread 21 = .ok (.iload_n 2, 1) := by decide +kernel
theorem dX1_spread_22 : decode cX1_spread 22 = .ok (.iload_n 3, 1) := by decide +kernel
theorem dX1_spread_23 : decode cX1_spread 23 = .ok (.invokevirtual 50, 3) := by decide +kernel
theorem dX1_spread_26 : decode cX1_spread 26 = .ok (.invokestatic 53, 3) := by decide +kernel
theorem dX1_spread_29 : decode cX1_spread 29 = .ok (.istore_n 1, 1) := by decide +kernel
theorem dX1_spread_30 : decode cX1_spread 30 = .ok (.iinc 3 1, 3) := by decide +kernel
theorem dX1_spread_33 : decode cX1_spread 33 = .ok (.goto (-19), 3) := by decide +kernel
theorem dX1_spread_36 : decode cX1_spread 36 = .ok (.iinc 2 1, 3) := by decide +kernel
theorem dX1_spread_39 : decode cX1_spread 39 = .ok (.goto (-35), 3) := by decide +kernel
theorem dX1_spread_42 : decode cX1_spread 42 = .ok (.iload_n 1, 1) := by decide +kernel
theorem dX1_spread_43 : decode cX1_spread 43 = .ok (.ireturn, 1) := by decide +kernel
theorem dX1_ofKind_0 : decode cX1_ofKind 0 = .ok (.iconst 0, 1) := by decide +kernel
theorem dX1_ofKind_1 : decode cX1_ofKind 1 = .ok (.istore_n 2, 1) := by decide +kernel
theorem dX1_ofKind_2 : decode cX1_ofKind 2 = .ok (.iconst 0, 1) := by decide +kernel
theorem dX1_ofKind_3 : decode cX1_ofKind 3 = .ok (.istore_n 3, 1) := by decide +kernel
theorem dX1_ofKind_4 : decode cX1_ofKind 4 = .ok (.iload_n 3, 1) := by decide +kernel
theorem dX1_ofKind_5 : decode cX1_ofKind 5 = .ok (.aload_n 0, 1) := by decide +kernel
theorem dX1_ofKind_6 : decode cX1_ofKind 6 = .ok (.getfield 29, 3) := by decide +kernel
theorem dX1_ofKind_9 : decode cX1_ofKind 9 = .ok (.if_icmp .ge 25, 3) := by decide +kernel
theorem dX1_ofKind_12 : decode cX1_ofKind 12 = .ok (.aload_n 0, 1) := by decide +kernel
theorem dX1_ofKind_13 : decode cX1_ofKind 13 = .ok (.iload_n 3, 1) := by decide +kernel
theorem dX1_ofKind_14 : decode cX1_ofKind 14 = .ok (.iconst 2, 1) := by decide +kernel
theorem dX1_ofKind_15 : decode cX1_ofKind 15 = .ok (.invokevirtual 36, 3) := by decide +kernel
theorem dX1_ofKind_18 : decode cX1_ofKind 18 = .ok (.iload_n 1, 1) := by decide +kernel
theorem dX1_ofKind_19 : decode cX1_ofKind 19 = .ok (.if_icmp .ne 9, 3) := by decide +kernel
theorem dX1_ofKind_22 : decode cX1_ofKind 22 = .ok (.iload_n 2, 1) := by decide +kernel
theorem dX1_ofKind_23 : decode cX1_ofKind 23 = .ok (.iconst 1, 1) := by decide +kernel
theorem dX1_ofKind_24 : decode cX1_ofKind 24 = .ok (.iload_n 3, 1) := by decide +kernel
theorem dX1_ofKind_25 : decode cX1_ofKind 25 = .ok (.ishl, 1) := by decide +kernel
theorem dX1_ofKind_26 : decode cX1_ofKind 26 = .ok (.ior, 1) := by decide +kernel
theorem dX1_ofKind_27 : decode cX1_ofKind 27 = .ok (.istore_n 2, 1) := by decide +kernel
theorem dX1_ofKind_28 : decode cX1_ofKind 28 = .ok (.iinc 3 1, 3) := by decide +kernel
theorem dX1_ofKind_31 : decode cX1_ofKind 31 = .ok (.goto (-27), 3) := by decide +kernel
theorem dX1_ofKind_34 : decode cX1_ofKind 34 = .ok (.iload_n 2, 1) := by decide +kernel
theorem dX1_ofKind_35 : decode cX1_ofKind 35 = .ok (.ireturn, 1) := by decide +kernel
theorem dX1_roundComes_0 : decode cX1_roundComes 0 = .ok (.iconst 0, 1) := by decide +kernel
theorem dX1_roundComes_1 : decode cX1_roundComes 1 = .ok (.istore_n 2, 1) := by decide +kernel
theorem dX1_roundComes_2 : decode cX1_roundComes 2 = .ok (.iconst (-1), 1) := by decide +kernel
theorem dX1_roundComes_3 : decode cX1_roundComes 3 = .ok (.istore_n 3, 1) := by decide +kernel
theorem dX1_roundComes_4 : decode cX1_roundComes 4 = .ok (.iconst 0, 1) := by decide +kernel
theorem dX1_roundComes_5 : decode cX1_roundComes 5 = .ok (.istore 4, 2) := by decide +kernel
theorem dX1_roundComes_7 : decode cX1_roundComes 7 = .ok (.iload 4, 2) := by decide +kernel
theorem dX1_roundComes_9 : decode cX1_roundComes 9 = .ok (.iconst 4, 1) := by decide +kernel
theorem dX1_roundComes_10 : decode cX1_roundComes 10 = .ok (.if_icmp .ge 63, 3) := by decide +kernel
theorem dX1_roundComes_13 : decode cX1_roundComes 13 = .ok (.iconst 0, 1) := by decide +kernel
theorem dX1_roundComes_14 : decode cX1_roundComes 14 = .ok (.istore 5, 2) := by decide +kernel
theorem dX1_roundComes_16 : decode cX1_roundComes 16 = .ok (.iload 5, 2) := by decide +kernel
theorem dX1_roundComes_18 : decode cX1_roundComes 18 = .ok (.aload_n 0, 1) := by decide +kernel
theorem dX1_roundComes_19 : decode cX1_roundComes 19 = .ok (.getfield 29, 3) := by decide +kernel
theorem dX1_roundComes_22 : decode cX1_roundComes 22 = .ok (.if_icmp .ge 45, 3) := by decide +kernel
theorem dX1_roundComes_25 : decode cX1_roundComes 25 = .ok (.aload_n 0, 1) := by decide +kernel
theorem dX1_roundComes_26 : decode cX1_roundComes 26 = .ok (.iload 5, 2) := by decide +kernel
theorem dX1_roundComes_28 : decode cX1_roundComes 28 = .ok (.iconst 2, 1) := by decide +kernel
theorem dX1_roundComes_29 : decode cX1_roundComes 29 = .ok (.invokevirtual 36, 3) := by decide +kernel
theorem dX1_roundComes_32 : decode cX1_roundComes 32 = .ok (.iload 4, 2) := by decide +kernel
theorem dX1_roundComes_34 : decode cX1_roundComes 34 = .ok (.if_icmp .ne 27, 3) := by decide +kernel
theorem dX1_roundComes_37 : decode cX1_roundComes 37 = .ok (.iload_n 2, 1) := by decide +kernel
theorem dX1_roundComes_38 : decode cX1_roundComes 38 = .ok (.aload_n 0, 1) := by decide +kernel
theorem dX1_roundComes_39 : decode cX1_roundComes 39 = .ok (.iload_n 3, 1) := by decide +kernel
theorem dX1_roundComes_40 : decode cX1_roundComes 40 = .ok (.iload 5, 2) := by decide +kernel
theorem dX1_roundComes_42 : decode cX1_roundComes 42 = .ok (.invokevirtual 50, 3) := by decide +kernel
theorem dX1_roundComes_45 : decode cX1_roundComes 45 = .ok (.iadd, 1) := by decide +kernel
theorem dX1_roundComes_46 : decode cX1_roundComes 46 = .ok (.istore_n 2, 1) := by decide +kernel
theorem dX1_roundComes_47 : decode cX1_roundComes 47 = .ok (.iload 5, 2) := by decide +kernel
theorem dX1_roundComes_49 : decode cX1_roundComes 49 = .ok (.iload_n 1, 1) := by decide +kernel
theorem dX1_roundComes_50 : decode cX1_roundComes 50 = .ok (.if_icmp .ne 5, 3) := by decide +kernel
theorem dX1_roundComes_53 : decode cX1_roundComes 53 = .ok (.iload_n 2, 1) := by decide +kernel
theorem dX1_roundComes_54 : decode cX1_roundComes 54 = .ok (.ireturn, 1) := by decide +kernel
theorem dX1_roundComes_55 : decode cX1_roundComes 55 = .ok (.iinc 2 2, 3) := by decide +kernel
theorem dX1_roundComes_58 : decode cX1_roundComes 58 = .ok (.iload 5, 2) := by decide +kernel
theorem dX1_roundComes_60 : decode cX1_roundComes 60 = .ok (.istore_n 3, 1) := by decide +kernel
theorem dX1_roundComes_61 : decode cX1_roundComes 61 = .ok (.iinc 5 1, 3) := by decide +kernel
theorem dX1_roundComes_64 : decode cX1_roundComes 64 = .ok (.goto (-48), 3) := by decide +kernel
theorem dX1_roundComes_67 : decode cX1_roundComes 67 = .ok (.iinc 4 1, 3) := by decide +kernel
theorem dX1_roundComes_70 : decode cX1_roundComes 70 = .ok (.goto (-63), 3) := by decide +kernel
theorem dX1_roundComes_73 : decode cX1_roundComes 73 = .ok (.iconst (-1), 1) := by decide +kernel
theorem dX1_roundComes_74 : decode cX1_roundComes 74 = .ok (.ireturn, 1) := by decide +kernel
theorem dX2_init_0 : decode cX2_init 0 = .ok (.aload_n 0, 1) := by decide +kernel
theorem dX2_init_1 : decode cX2_init 1 = .ok (.invokespecial 3, 3) := by decide +kernel
theorem dX2_init_4 : decode cX2_init 4 = .ok (.aload_n 0, 1) := by decide +kernel
theorem dX2_init_5 : decode cX2_init 5 = .ok (.aload_n 1, 1) := by decide +kernel
theorem dX2_init_6 : decode cX2_init 6 = .ok (.putfield 9, 3) := by decide +kernel
theorem dX2_init_9 : decode cX2_init 9 = .ok (.aload_n 0, 1) := by decide +kernel
theorem dX2_init_10 : decode cX2_init 10 = .ok (.aload_n 2, 1) := by decide +kernel
theorem dX2_init_11 : decode cX2_init 11 = .ok (.putfield 15, 3) := by decide +kernel
theorem dX2_init_14 : decode cX2_init 14 = .ok (.return_, 1) := by decide +kernel
theorem dX2_findFault_0 : decode cX2_findFault 0 = .ok (.aload_n 0, 1) := by decide +kernel
theorem dX2_findFault_1 : decode cX2_findFault 1 = .ok (.getfield 9, 3) := by decide +kernel
theorem dX2_findFault_4 : decode cX2_findFault 4 = .ok (.iconst 0, 1) := by decide +kernel
theorem dX2_findFault_5 : decode cX2_findFault 5 = .ok (.putfield 19, 3) := by decide +kernel
theorem dX2_findFault_8 : decode cX2_findFault 8 = .ok (.aload_n 0, 1) := by decide +kernel
theorem dX2_findFault_9 : decode cX2_findFault 9 = .ok (.iconst 0, 1) := by decide +kernel
theorem dX2_findFault_10 : decode cX2_findFault 10 = .ok (.putfield 25, 3) := by decide +kernel
theorem dX2_findFault_13 : decode cX2_findFault 13 = .ok (.aload_n 0, 1) := by decide +kernel
theorem dX2_findFault_14 : decode cX2_findFault 14 = .ok (.getfield 15, 3) := by decide +kernel
theorem dX2_findFault_17 : decode cX2_findFault 17 = .ok (.iconst 0, 1) := by decide +kernel
theorem dX2_findFault_18 : decode cX2_findFault 18 = .ok (.putfield 29, 3) := by decide +kernel
theorem dX2_findFault_21 : decode cX2_findFault 21 = .ok (.getstatic 34, 3) := by decide +kernel
theorem dX2_findFault_24 : decode cX2_findFault 24 = .ok (.iconst 0, 1) := by decide +kernel
theorem dX2_findFault_25 : decode cX2_findFault 25 = .ok (.aload_n 0, 1) := by decide +kernel
theorem dX2_findFault_26 : decode cX2_findFault 26 = .ok (.getfield 15, 3) := by decide +kernel
theorem dX2_findFault_29 : decode cX2_findFault 29 = .ok (.getfield 38, 3) := by decide +kernel
theorem dX2_findFault_32 : decode cX2_findFault 32 = .ok (.iconst 0, 1) := by decide +kernel
theorem dX2_findFault_33 : decode cX2_findFault 33 = .ok (.getstatic 34, 3) := by decide +kernel
theorem dX2_findFault_36 : decode cX2_findFault 36 = .ok (.arraylength, 1) := by decide +kernel
theorem dX2_findFault_37 : decode cX2_findFault 37 = .ok (.invokestatic 41, 3) := by decide +kernel
theorem dX2_findFault_40 : decode cX2_findFault 40 = .ok (.iconst 0, 1) := by decide +kernel
theorem dX2_findFault_41 : decode cX2_findFault 41 = .ok (.istore_n 1, 1) := by decide +kernel
theorem dX2_findFault_42 : decode cX2_findFault 42 = .ok (.iload_n 1, 1) := by decide +kernel
theorem dX2_findFault_43 : decode cX2_findFault 43 = .ok (.bipush 8, 2) := by decide +kernel
theorem dX2_findFault_45 : decode cX2_findFault 45 = .ok (.if_icmp .gt 95, 3) := by decide +kernel
theorem dX2_findFault_48 : decode cX2_findFault 48 = .ok (.aload_n 0, 1) := by decide +kernel
theorem dX2_findFault_49 : decode cX2_findFault 49 = .ok (.invokevirtual 47, 3) := by decide +kernel
theorem dX2_findFault_52 : decode cX2_findFault 52 = .ok (.ifCond .ne 11, 3) := by decide +kernel
theorem dX2_findFault_55 : decode cX2_findFault 55 = .ok (.aload_n 0, 1) := by decide +kernel
theorem dX2_findFault_56 : decode cX2_findFault 56 = .ok (.getfield 9, 3) := by decide +kernel
theorem dX2_findFault_59 : decode cX2_findFault 59 = .ok (.getfield 19, 3) := by decide +kernel
theorem dX2_findFault_62 : decode cX2_findFault 62 = .ok (.ireturn, 1) := by decide +kernel
theorem dX2_findFault_63 : decode cX2_findFault 63 = .ok (.aload_n 0, 1) := by decide +kernel
theorem dX2_findFault_64 : decode cX2_findFault 64 = .ok (.getfield 9, 3) := by decide +kernel
theorem dX2_findFault_67 : decode cX2_findFault 67 = .ok (.invokevirtual 51, 3) := by decide +kernel
theorem dX2_findFault_70 : decode cX2_findFault 70 = .ok (.iconst (-1), 1) := by decide +kernel
theorem dX2_findFault_71 : decode cX2_findFault 71 = .ok (.if_icmp .ne 43, 3) := by decide +kernel
theorem dX2_findFault_74 : decode cX2_findFault 74 = .ok (.aload_n 0, 1) := by decide +kernel
theorem dX2_findFault_75 : decode cX2_findFault 75 = .ok (.getfield 15, 3) := by decide +kernel
theorem dX2_findFault_78 : decode cX2_findFault 78 = .ok (.invokevirtual 55, 3) := by decide +kernel
theorem dX2_findFault_81 : decode cX2_findFault 81 = .ok (.aload_n 0, 1) := by decide +kernel
theorem dX2_findFault_82 : decode cX2_findFault 82 = .ok (.getfield 15, 3) := by decide +kernel
theorem dX2_findFault_85 : decode cX2_findFault 85 = .ok (.getfield 29, 3) := by decide +kernel
theorem dX2_findFault_88 : decode cX2_findFault 88 = .ok (.iconst 2, 1) := by decide +kernel
theorem dX2_findFault_89 : decode cX2_findFault 89 = .ok (.if_icmp .lt 13, 3) := by decide +kernel
theorem dX2_findFault_92 : decode cX2_findFault 92 = .ok (.aload_n 0, 1) := by decide +kernel
theorem dX2_findFault_93 : decode cX2_findFault 93 = .ok (.getfield 15, 3) := by decide +kernel
theorem dX2_findFault_96 : decode cX2_findFault 96 = .ok (.invokevirtual 58, 3) := by decide +kernel
theorem dX2_findFault_99 : decode cX2_findFault 99 = .ok (.ifCond .eq 13, 3) := by decide +kernel
theorem dX2_findFault_102 : decode cX2_findFault 102 = .ok (.aload_n 0, 1) := by decide +kernel
theorem dX2_findFault_103 : decode cX2_findFault 103 = .ok (.getfield 9, 3) := by decide +kernel
theorem dX2_findFault_106 : decode cX2_findFault 106 = .ok (.getfield 61, 3) := by decide +kernel
theorem dX2_findFault_109 : decode cX2_findFault 109 = .ok (.goto 4, 3) := by decide +kernel
theorem dX2_findFault_112 : decode cX2_findFault 112 = .ok (.iconst (-1), 1) := by decide +kernel
theorem dX2_findFault_113 : decode cX2_findFault 113 = .ok (.ireturn, 1) := by decide +kernel
theorem dX2_findFault_114 : decode cX2_findFault 114 = .ok (.aload_n 0, 1) := by decide +kernel
theorem dX2_findFault_115 : decode cX2_findFault 115 = .ok (.getfield 9, 3) := by decide +kernel
theorem dX2_findFault_118 : decode cX2_findFault 118 = .ok (.bipush 59, 2) := by decide +kernel
theorem dX2_findFault_120 : decode cX2_findFault 120 = .ok (.invokevirtual 64, 3) := by decide +kernel
theorem dX2_findFault_123 : decode cX2_findFault 123 = .ok (.ifCond .ne 11, 3) := by decide +kernel
theorem dX2_findFault_126 : decode cX2_findFault 126 = .ok (.aload_n 0, 1) := by decide +kernel
theorem dX2_findFault_127 : decode cX2_findFault 127 = .ok (.getfield 9, 3) := by decide +kernel
theorem dX2_findFault_130 : decode cX2_findFault 130 = .ok (.getfield 19, 3) := by decide +kernel
theorem dX2_findFault_133 : decode cX2_findFault 133 = .ok (.ireturn, 1) := by decide +kernel
theorem dX2_findFault_134 : decode cX2_findFault 134 = .ok (.iinc 1 1, 3) := by decide +kernel
theorem dX2_findFault_137 : decode cX2_findFault 137 = .ok (.goto (-95), 3) := by decide +kernel
theorem dX2_findFault_140 : decode cX2_findFault 140 = .ok (.aload_n 0, 1) := by decide +kernel
theorem dX2_findFault_141 : decode cX2_findFault 141 = .ok (.getfield 9, 3) := by decide +kernel
theorem dX2_findFault_144 : decode cX2_findFault 144 = .ok (.getfield 19, 3) := by decide +kernel
theorem dX2_findFault_147 : decode cX2_findFault 147 = .ok (.ireturn, 1) := by decide +kernel
theorem dX2_readClause_0 : decode cX2_readClause 0 = .ok (.aload_n 0, 1) := by decide +kernel
theorem dX2_readClause_1 : decode cX2_readClause 1 = .ok (.getfield 9, 3) := by decide +kernel
theorem dX2_readClause_4 : decode cX2_readClause 4 = .ok (.invokevirtual 51, 3) := by decide +kernel
theorem dX2_readClause_7 : decode cX2_readClause 7 = .ok (.istore_n 1, 1) := by decide +kernel
theorem dX2_readClause_8 : decode cX2_readClause 8 = .ok (.iload_n 1, 1) := by decide +kernel
theorem dX2_readClause_9 : decode cX2_readClause 9 = .ok (.bipush 115, 2) := by decide +kernel
theorem dX2_readClause_11 : decode cX2_readClause 11 = .ok (.if_icmp .ne 48, 3) := by decide +kernel
theorem dX2_readClause_14 : decode cX2_readClause 14 = .ok (.aload_n 0, 1) := by decide +kernel
theorem dX2_readClause_15 : decode cX2_readClause 15 = .ok (.getfield 25, 3) := by decide +kernel
theorem dX2_readClause_18 : decode cX2_readClause 18 = .ok (.ifCond .ne 41, 3) := by decide +kernel
theorem dX2_readClause_21 : decode cX2_readClause 21 = .ok (.aload_n 0, 1) := by decide +kernel
theorem dX2_readClause_22 : decode cX2_readClause 22 = .ok (.iconst 1, 1) := by decide +kernel
theorem dX2_readClause_23 : decode cX2_readClause 23 = .ok (.putfield 25, 3) := by decide +kernel
theorem dX2_readClause_26 : decode cX2_readClause 26 = .ok (.aload_n 0, 1) := by decide +kernel
theorem dX2_readClause_27 : decode cX2_readClause 27 = .ok (.getfield 9, 3) := by decide +kernel
theorem dX2_readClause_30 : decode cX2_readClause 30 = .ok (.dup, 1) := by decide +kernel
theorem dX2_readClause_31 : decode cX2_readClause 31 = .ok (.getfield 19, 3) := by decide +kernel
theorem dX2_readClause_34 : decode cX2_readClause 34 = .ok (.iconst 1, 1) := by decide +kernel
theorem dX2_readClause_35 : decode cX2_readClause 35 = .ok (.iadd, 1) := by decide +kernel
theorem dX2_readClause_36 : decode cX2_readClause 36 = .ok (.putfield 19, 3) := by decide +kernel
theorem dX2_readClause_39 : decode cX2_readClause 39 = .ok (.aload_n 0, 1) := by decide +kernel
theorem dX2_readClause_40 : decode cX2_readClause 40 = .ok (.ldc 68, 2) := by decide +kernel
theorem dX2_readClause_42 : decode cX2_readClause 42 = .ok (.getstatic 70, 3) := by decide +kernel
theorem dX2_readClause_45 : decode cX2_readClause 45 = .ok (.getstatic 73, 3) := by decide +kernel
theorem dX2_readClause_48 : decode cX2_readClause 48 = .ok (.aload_n 0, 1) := by decide +kernel
theorem dX2_readClause_49 : decode cX2_readClause 49 = .ok (.getfield 15, 3) := by decide +kernel
theorem dX2_readClause_52 : decode cX2_readClause 52 = .ok (.getfield 38, 3) := by decide +kernel
theorem dX2_readClause_55 : decode cX2_readClause 55 = .ok (.invokevirtual 76, 3) := by decide +kernel
theorem dX2_readClause_58 : decode cX2_readClause 58 = .ok (.ireturn, 1) := by decide +kernel
theorem dX2_readClause_59 : decode cX2_readClause 59 = .ok (.iload_n 1, 1) := by decide +kernel
theorem dX2_readClause_60 : decode cX2_readClause 60 = .ok (.bipush 112, 2) := by decide +kernel
theorem dX2_readClause_62 : decode cX2_readClause 62 = .ok (.if_icmp .ne 84, 3) := by decide +kernel
theorem dX2_readClause_65 : decode cX2_readClause 65 = .ok (.aload_n 0, 1) := by decide +kernel
theorem dX2_readClause_66 : decode cX2_readClause 66 = .ok (.getfield 15, 3) := by decide +kernel
theorem dX2_readClause_69 : decode cX2_readClause 69 = .ok (.getfield 29, 3) := by decide +kernel
theorem dX2_readClause_72 : decode cX2_readClause 72 = .ok (.bipush 7, 2) := by decide +kernel
theorem dX2_readClause_74 : decode cX2_readClause 74 = .ok (.if_icmp .ge 72, 3) := by decide +kernel
theorem dX2_readClause_77 : decode cX2_readClause 77 = .ok (.aload_n 0, 1) := by decide +kernel
theorem dX2_readClause_78 : decode cX2_readClause 78 = .ok (.getfield 15, 3) := by decide +kernel
theorem dX2_readClause_81 : decode cX2_readClause 81 = .ok (.getfield 80, 3) := by decide +kernel
theorem dX2_readClause_84 : decode cX2_readClause 84 = .ok (.aload_n 0, 1) := by decide +kernel
theorem dX2_readClause_85 : decode cX2_readClause 85 = .ok (.getfield 15, 3) := by decide +kernel
theorem dX2_readClause_88 : decode cX2_readClause 88 = .ok (.getfield 29, 3) := by decide +kernel
theorem dX2_readClause_91 : decode cX2_readClause 91 = .ok (.aaload, 1) := by decide +kernel
theorem dX2_readClause_92 : decode cX2_readClause 92 = .ok (.astore_n 2, 1) := by decide +kernel
theorem dX2_readClause_93 : decode cX2_readClause 93 = .ok (.aload_n 0, 1) := by decide +kernel
theorem dX2_readClause_94 : decode cX2_readClause 94 = .ok (.getfield 15, 3) := by decide +kernel
theorem dX2_readClause_97 : decode cX2_readClause 97 = .ok (.dup, 1) := by decide +kernel
theorem dX2_readClause_98 : decode cX2_readClause 98 = .ok (.getfield 29, 3) := by decide +kernel
theorem dX2_readClause_101 : decode cX2_readClause 101 = .ok (.iconst 1, 1) := by decide +kernel
theorem dX2_readClause_102 : decode cX2_readClause 102 = .ok (.iadd, 1) := by decide +kernel
theorem dX2_readClause_103 : decode cX2_readClause 103 = .ok (.putfield 29, 3) := by decide +kernel
theorem dX2_readClause_106 : decode cX2_readClause 106 = .ok (.aload_n 0, 1) := by decide +kernel
theorem dX2_readClause_107 : decode cX2_readClause 107 = .ok (.getfield 9, 3) := by decide +kernel
theorem dX2_readClause_110 : decode cX2_readClause 110 = .ok (.dup, 1) := by decide +kernel
theorem dX2_readClause_111 : decode cX2_readClause 111 = .ok (.getfield 19, 3) := by decide +kernel
theorem dX2_readClause_114 : decode cX2_readClause 114 = .ok (.iconst 1, 1) := by decide +kernel
theorem dX2_readClause_115 : decode cX2_readClause 115 = .ok (.iadd, 1) := by decide +kernel
theorem dX2_readClause_116 : decode cX2_readClause 116 = .ok (.putfield 19, 3) := by decide +kernel
theorem dX2_readClause_119 : decode cX2_readClause 119 = .ok (.getstatic 84, 3) := by decide +kernel
theorem dX2_readClause_122 : decode cX2_readClause 122 = .ok (.iconst 0, 1) := by decide +kernel
theorem dX2_readClause_123 : decode cX2_readClause 123 = .ok (.aload_n 2, 1) := by decide +kernel
theorem dX2_readClause_124 : decode cX2_readClause 124 = .ok (.iconst 0, 1) := by decide +kernel
theorem dX2_readClause_125 : decode cX2_readClause 125 = .ok (.getstatic 84, 3) := by decide +kernel
theorem dX2_readClause_128 : decode cX2_readClause 128 = .ok (.arraylength, 1) := by decide +kernel
theorem dX2_readClause_129 : decode cX2_readClause 129 = .ok (.invokestatic 41, 3) := by decide +kernel
theorem dX2_readClause_132 : decode cX2_readClause 132 = .ok (.aload_n 0, 1) := by decide +kernel
theorem dX2_readClause_133 : decode cX2_readClause 133 = .ok (.ldc 87, 2) := by decide +kernel
theorem dX2_readClause_135 : decode cX2_readClause 135 = .ok (.getstatic 89, 3) := by decide +kernel
theorem dX2_readClause_138 : decode cX2_readClause 138 = .ok (.getstatic 92, 3) := by decide +kernel
theorem dX2_readClause_141 : decode cX2_readClause 141 = .ok (.aload_n 2, 1) := by decide +kernel
theorem dX2_readClause_142 : decode cX2_readClause 142 = .ok (.invokevirtual 76, 3) := by decide +kernel
theorem dX2_readClause_145 : decode cX2_readClause 145 = .ok (.ireturn, 1) := by decide +kernel
theorem dX2_readClause_146 : decode cX2_readClause 146 = .ok (.iconst 0, 1) := by decide +kernel
theorem dX2_readClause_147 : decode cX2_readClause 147 = .ok (.ireturn, 1) := by decide +kernel
theorem dX2_readItems_0 : decode cX2_readItems 0 = .ok (.iconst 0, 1) := by decide +kernel
theorem dX2_readItems_1 : decode cX2_readItems 1 = .ok (.istore 5, 2) := by decide +kernel
theorem dX2_readItems_3 : decode cX2_readItems 3 = .ok (.iconst 0, 1) := by decide +kernel
theorem dX2_readItems_4 : decode cX2_readItems 4 = .ok (.istore 6, 2) := by decide +kernel
theorem dX2_readItems_6 : decode cX2_readItems 6 = .ok (.iload 6, 2) := by decide +kernel
theorem dX2_readItems_8 : decode cX2_readItems 8 = .ok (.aload_n 1, 1) := by decide +kernel
theorem dX2_readItems_9 : decode cX2_readItems 9 = .ok (.invokevirtual 95, 3) := by decide +kernel
theorem dX2_readItems_12 : decode cX2_readItems 12 = .ok (.if_icmp .ge 102, 3) := by decide +kernel
theorem dX2_readItems_15 : decode cX2_readItems 15 = .ok (.aload_n 1, 1) := by decide +kernel
theorem dX2_readItems_16 : decode cX2_readItems 16 = .ok (.aload_n 0, 1) := by decide +kernel
theorem dX2_readItems_17 : decode cX2_readItems 17 = .ok (.getfield 9, 3) := by decide +kernel
theorem dX2_readItems_20 : decode cX2_readItems 20 = .ok (.invokevirtual 51, 3) := by decide +kernel
theorem dX2_readItems_23 : decode cX2_readItems 23 = .ok (.invokestatic 99, 3) := by decide +kernel
theorem dX2_readItems_26 : decode cX2_readItems 26 = .ok (.istore 7, 2) := by decide +kernel
theorem dX2_readItems_28 : decode cX2_readItems 28 = .ok (.iload 7, 2) := by decide +kernel
theorem dX2_readItems_30 : decode cX2_readItems 30 = .ok (.ifCond .lt 21, 3) := by decide +kernel
theorem dX2_readItems_33 : decode cX2_readItems 33 = .ok (.iload 7, 2) := by decide +kernel
theorem dX2_readItems_35 : decode cX2_readItems 35 = .ok (.aload 4, 2) := by decide +kernel
theorem dX2_readItems_37 : decode cX2_readItems 37 = .ok (.arraylength, 1) := by decide +kernel
theorem dX2_readItems_38 : decode cX2_readItems 38 = .ok (.if_icmp .ge 13, 3) := by decide +kernel
theorem dX2_readItems_41 : decode cX2_readItems 41 = .ok (.iload 5, 2) := by decide +kernel
theorem dX2_readItems_43 : decode cX2_readItems 43 = .ok (.iload 7, 2) := by decide +kernel
theorem dX2_readItems_45 : decode cX2_readItems 45 = .ok (.invokestatic 103, 3) := by decide +kernel
theorem dX2_readItems_48 : decode cX2_readItems 48 = .ok (.ifCond .eq 5, 3) := by decide +kernel
theorem dX2_readItems_51 : decode cX2_readItems 51 = .ok (.iconst 1, 1) := by decide +kernel
theorem dX2_readItems_52 : decode cX2_readItems 52 = .ok (.ireturn, 1) := by decide +kernel
theorem dX2_readItems_53 : decode cX2_readItems 53 = .ok (.iload 5, 2) := by decide +kernel
theorem dX2_readItems_55 : decode cX2_readItems 55 = .ok (.iconst 1, 1) := by decide +kernel
theorem dX2_readItems_56 : decode cX2_readItems 56 = .ok (.iload 7, 2) := by decide +kernel
theorem dX2_readItems_58 : decode cX2_readItems 58 = .ok (.ishl, 1) := by decide +kernel
theorem dX2_readItems_59 : decode cX2_readItems 59 = .ok (.ior, 1) := by decide +kernel
theorem dX2_readItems_60 : decode cX2_readItems 60 = .ok (.istore 5, 2) := by decide +kernel
theorem dX2_readItems_62 : decode cX2_readItems 62 = .ok (.aload_n 0, 1) := by decide +kernel
theorem dX2_readItems_63 : decode cX2_readItems 63 = .ok (.getfield 9, 3) := by decide +kernel
theorem dX2_readItems_66 : decode cX2_readItems 66 = .ok (.dup, 1) := by decide +kernel
theorem dX2_readItems_67 : decode cX2_readItems 67 = .ok (.getfield 19, 3) := by decide +kernel
theorem dX2_readItems_70 : decode cX2_readItems 70 = .ok (.iconst 1, 1) := by decide +kernel
theorem dX2_readItems_71 : decode cX2_readItems 71 = .ok (.iadd, 1) := by decide +kernel
theorem dX2_readItems_72 : decode cX2_readItems 72 = .ok (.putfield 19, 3) := by decide +kernel
theorem dX2_readItems_75 : decode cX2_readItems 75 = .ok (.aload_n 0, 1) := by decide +kernel
theorem dX2_readItems_76 : decode cX2_readItems 76 = .ok (.getfield 9, 3) := by decide +kernel
theorem dX2_readItems_79 : decode cX2_readItems 79 = .ok (.iconst 2, 1) := by decide +kernel
theorem dX2_readItems_80 : decode cX2_readItems 80 = .ok (.aload_n 2, 1) := by decide +kernel
theorem dX2_readItems_81 : decode cX2_readItems 81 = .ok (.iload 7, 2) := by decide +kernel
theorem dX2_readItems_83 : decode cX2_readItems 83 = .ok (.iaload, 1) := by decide +kernel
theorem dX2_readItems_84 : decode cX2_readItems 84 = .ok (.aload_n 3, 1) := by decide +kernel
theorem dX2_readItems_85 : decode cX2_readItems 85 = .ok (.iload 7, 2) := by decide +kernel
theorem dX2_readItems_87 : decode cX2_readItems 87 = .ok (.iaload, 1) := by decide +kernel
theorem dX2_readItems_88 : decode cX2_readItems 88 = .ok (.invokevirtual 107, 3) := by decide +kernel
theorem dX2_readItems_91 : decode cX2_readItems 91 = .ok (.ifCond .ne 5, 3) := by decide +kernel
theorem dX2_readItems_94 : decode cX2_readItems 94 = .ok (.iconst 0, 1) := by decide +kernel
theorem dX2_readItems_95 : decode cX2_readItems 95 = .ok (.ireturn, 1) := by decide +kernel
theorem dX2_readItems_96 : decode cX2_readItems 96 = .ok (.aload 4, 2) := by decide +kernel
theorem dX2_readItems_98 : decode cX2_readItems 98 = .ok (.iload 7, 2) := by decide +kernel
theorem dX2_readItems_100 : decode cX2_readItems 100 = .ok (.aload_n 0, 1) := by decide +kernel
theorem dX2_readItems_101 : decode cX2_readItems 101 = .ok (.getfield 9, 3) := by decide +kernel
theorem dX2_readItems_104 : decode cX2_readItems 104 = .ok (.getfield 111, 3) := by decide +kernel
theorem dX2_readItems_107 : decode cX2_readItems 107 = .ok (.iastore, 1) := by decide +kernel
theorem dX2_readItems_108 : decode cX2_readItems 108 = .ok (.iinc 6 1, 3) := by decide +kernel
theorem dX2_readItems_111 : decode cX2_readItems 111 = .ok (.goto (-105), 3) := by decide +kernel
theorem dX2_readItems_114 : decode cX2_readItems 114 = .ok (.iconst 1, 1) := by decide +kernel
theorem dX2_readItems_115 : decode cX2_readItems 115 = .ok (.ireturn, 1) := by decide +kernel
theorem dX3_init_0 : decode cX3_init 0 = .ok (.aload_n 0, 1) := by decide +kernel
theorem dX3_init_1 : decode cX3_init 1 = .ok (.invokespecial 3, 3) := by decide +kernel
theorem dX3_init_4 : decode cX3_init 4 = .ok (.aload_n 0, 1) := by decide +kernel
theorem dX3_init_5 : decode cX3_init 5 = .ok (.iconst 5, 1) := by decide +kernel
theorem dX3_init_6 : decode cX3_init 6 = .ok (.bipush 16, 2) := by decide +kernel
theorem dX3_init_8 : decode cX3_init 8 = .ok (.multianewarray 11 2, 4) := by decide +kernel
theorem dX3_init_12 : decode cX3_init 12 = .ok (.putfield 13, 3) := by decide +kernel
theorem dX3_init_15 : decode cX3_init 15 = .ok (.aload_n 0, 1) := by decide +kernel
theorem dX3_init_16 : decode cX3_init 16 = .ok (.iconst 5, 1) := by decide +kernel
theorem dX3_init_17 : decode cX3_init 17 = .ok (.bipush 16, 2) := by decide +kernel
theorem dX3_init_19 : decode cX3_init 19 = .ok (.multianewarray 11 2, 4) := by decide +kernel
theorem dX3_init_23 : decode cX3_init 23 = .ok (.putfield 16, 3) := by decide +kernel
theorem dX3_init_26 : decode cX3_init 26 = .ok (.aload_n 0, 1) := by decide +kernel
theorem dX3_init_27 : decode cX3_init 27 = .ok (.iconst 5, 1) := by decide +kernel
theorem dX3_init_28 : decode cX3_init 28 = .ok (.newarray .int, 2) := by decide +kernel
theorem dX3_init_30 : decode cX3_init 30 = .ok (.putfield 19, 3) := by decide +kernel
theorem dX3_init_33 : decode cX3_init 33 = .ok (.aload_n 0, 1) := by decide +kernel
theorem dX3_init_34 : decode cX3_init 34 = .ok (.aload_n 1, 1) := by decide +kernel
theorem dX3_init_35 : decode cX3_init 35 = .ok (.putfield 23, 3) := by decide +kernel
theorem dX3_init_38 : decode cX3_init 38 = .ok (.return_, 1) := by decide +kernel
theorem dX3_keepDraft_0 : decode cX3_keepDraft 0 = .ok (.aload_n 0, 1) := by decide +kernel
theorem dX3_keepDraft_1 : decode cX3_keepDraft 1 = .ok (.getfield 27, 3) := by decide +kernel
theorem dX3_keepDraft_4 : decode cX3_keepDraft 4 = .ok (.iconst 4, 1) := by decide +kernel
theorem dX3_keepDraft_5 : decode cX3_keepDraft 5 = .ok (.if_icmp .lt 5, 3) := by decide +kernel
theorem dX3_keepDraft_8 : decode cX3_keepDraft 8 = .ok (.iconst (-1), 1) := by decide +kernel
theorem dX3_keepDraft_9 : decode cX3_keepDraft 9 = .ok (.ireturn, 1) := by decide +kernel
theorem dX3_keepDraft_10 : decode cX3_keepDraft 10 = .ok (.aload_n 0, 1) := by decide +kernel
theorem dX3_keepDraft_11 : decode cX3_keepDraft 11 = .ok (.dup, 1) := by decide +kernel
theorem dX3_keepDraft_12 : decode cX3_keepDraft 12 = .ok (.getfield 27, 3) := by decide +kernel
theorem dX3_keepDraft_15 : decode cX3_keepDraft 15 = .ok (.iconst 1, 1) := by decide +kernel
theorem dX3_keepDraft_16 : decode cX3_keepDraft 16 = .ok (.iadd, 1) := by decide +kernel
theorem dX3_keepDraft_17 : decode cX3_keepDraft 17 = .ok (.putfield 27, 3) := by decide +kernel
theorem dX3_keepDraft_20 : decode cX3_keepDraft 20 = .ok (.aload_n 0, 1) := by decide +kernel
theorem dX3_keepDraft_21 : decode cX3_keepDraft 21 = .ok (.getfield 27, 3) := by decide +kernel
theorem dX3_keepDraft_24 : decode cX3_keepDraft 24 = .ok (.iconst 1, 1) := by decide +kernel
theorem dX3_keepDraft_25 : decode cX3_keepDraft 25 = .ok (.isub, 1) := by decide +kernel
theorem dX3_keepDraft_26 : decode cX3_keepDraft 26 = .ok (.ireturn, 1) := by decide +kernel
theorem dX3_isKept_0 : decode cX3_isKept 0 = .ok (.iload_n 1, 1) := by decide +kernel
theorem dX3_isKept_1 : decode cX3_isKept 1 = .ok (.ifCond .lt 15, 3) := by decide +kernel
theorem dX3_isKept_4 : decode cX3_isKept 4 = .ok (.iload_n 1, 1) := by decide +kernel
theorem dX3_isKept_5 : decode cX3_isKept 5 = .ok (.aload_n 0, 1) := by decide +kernel
theorem dX3_isKept_6 : decode cX3_isKept 6 = .ok (.getfield 27, 3) := by decide +kernel
theorem dX3_isKept_9 : decode cX3_isKept 9 = .ok (.if_icmp .ge 7, 3) := by decide +kernel
theorem dX3_isKept_12 : decode cX3_isKept 12 = .ok (.iconst 1, 1) := by decide +kernel
theorem dX3_isKept_13 : decode cX3_isKept 13 = .ok (.goto 4, 3) := by decide +kernel
theorem dX3_isKept_16 : decode cX3_isKept 16 = .ok (.iconst 0, 1) := by decide +kernel
theorem dX3_isKept_17 : decode cX3_isKept 17 = .ok (.ireturn, 1) := by decide +kernel
theorem dX3_sizeOf_0 : decode cX3_sizeOf 0 = .ok (.aload_n 0, 1) := by decide +kernel
theorem dX3_sizeOf_1 : decode cX3_sizeOf 1 = .ok (.iload_n 1, 1) := by decide +kernel
theorem dX3_sizeOf_2 : decode cX3_sizeOf 2 = .ok (.invokevirtual 31, 3) := by decide +kernel
theorem dX3_sizeOf_5 : decode cX3_sizeOf 5 = .ok (.ifCond .eq 12, 3) := by decide +kernel
theorem dX3_sizeOf_8 : decode cX3_sizeOf 8 = .ok (.aload_n 0, 1) := by decide +kernel
theorem dX3_sizeOf_9 : decode cX3_sizeOf 9 = .ok (.getfield 19, 3) := by decide +kernel
theorem dX3_sizeOf_12 : decode cX3_sizeOf 12 = .ok (.iload_n 1, 1) := by decide +kernel
theorem dX3_sizeOf_13 : decode cX3_sizeOf 13 = .ok (.iaload, 1) := by decide +kernel
theorem dX3_sizeOf_14 : decode cX3_sizeOf 14 = .ok (.goto 4, 3) := by decide +kernel
theorem dX3_sizeOf_17 : decode cX3_sizeOf 17 = .ok (.iconst 0, 1) := by decide +kernel
theorem dX3_sizeOf_18 : decode cX3_sizeOf 18 = .ok (.ireturn, 1) := by decide +kernel
theorem dX3_whatOf_0 : decode cX3_whatOf 0 = .ok (.iload_n 2, 1) := by decide +kernel
theorem dX3_whatOf_1 : decode cX3_whatOf 1 = .ok (.ifCond .lt 23, 3) := by decide +kernel
theorem dX3_whatOf_4 : decode cX3_whatOf 4 = .ok (.iload_n 2, 1) := by decide +kernel
theorem dX3_whatOf_5 : decode cX3_whatOf 5 = .ok (.aload_n 0, 1) := by decide +kernel
theorem dX3_whatOf_6 : decode cX3_whatOf 6 = .ok (.iload_n 1, 1) := by decide +kernel
theorem dX3_whatOf_7 : decode cX3_whatOf 7 = .ok (.invokevirtual 35, 3) := by decide +kernel
theorem dX3_whatOf_10 : decode cX3_whatOf 10 = .ok (.if_icmp .ge 14, 3) := by decide +kernel
theorem dX3_whatOf_13 : decode cX3_whatOf 13 = .ok (.aload_n 0, 1) := by decide +kernel
theorem dX3_whatOf_14 : decode cX3_whatOf 14 = .ok (.getfield 13, 3) := by decide +kernel
theorem dX3_whatOf_17 : decode cX3_whatOf 17 = .ok (.iload_n 1, 1) := by decide +kernel
theorem dX3_whatOf_18 : decode cX3_whatOf 18 = .ok (.aaload, 1) := by decide +kernel
theorem dX3_whatOf_19 : decode cX3_whatOf 19 = .ok (.iload_n 2, 1) := by decide +kernel
theorem dX3_whatOf_20 : decode cX3_whatOf 20 = .ok (.iaload, 1) := by decide +kernel
theorem dX3_whatOf_21 : decode cX3_whatOf 21 = .ok (.goto 4, 3) := by decide +kernel
theorem dX3_whatOf_24 : decode cX3_whatOf 24 = .ok (.iconst (-1), 1) := by decide +kernel
theorem dX3_whatOf_25 : decode cX3_whatOf 25 = .ok (.ireturn, 1) := by decide +kernel
theorem dX3_digitOf_0 : decode cX3_digitOf 0 = .ok (.iload_n 2, 1) := by decide +kernel
theorem dX3_digitOf_1 : decode cX3_digitOf 1 = .ok (.ifCond .lt 23, 3) := by decide +kernel
theorem dX3_digitOf_4 : decode cX3_digitOf 4 = .ok (.iload_n 2, 1) := by decide +kernel
theorem dX3_digitOf_5 : decode cX3_digitOf 5 = .ok (.aload_n 0, 1) := by decide +kernel
theorem dX3_digitOf_6 : decode cX3_digitOf 6 = .ok (.iload_n 1, 1) := by decide +kernel
theorem dX3_digitOf_7 : decode cX3_digitOf 7 = .ok (.invokevirtual 35, 3) := by decide +kernel
theorem dX3_digitOf_10 : decode cX3_digitOf 10 = .ok (.if_icmp .ge 14, 3) := by decide +kernel
theorem dX3_digitOf_13 : decode cX3_digitOf 13 = .ok (.aload_n 0, 1) := by decide +kernel
theorem dX3_digitOf_14 : decode cX3_digitOf 14 = .ok (.getfield 16, 3) := by decide +kernel
theorem dX3_digitOf_17 : decode cX3_digitOf 17 = .ok (.iload_n 1, 1) := by decide +kernel
theorem dX3_digitOf_18 : decode cX3_digitOf 18 = .ok (.aaload, 1) := by decide +kernel
theorem dX3_digitOf_19 : decode cX3_digitOf 19 = .ok (.iload_n 2, 1) := by decide +kernel
theorem dX3_digitOf_20 : decode cX3_digitOf 20 = .ok (.iaload, 1) := by decide +kernel
theorem dX3_digitOf_21 : decode cX3_digitOf 21 = .ok (.goto 4, 3) := by decide +kernel
theorem dX3_digitOf_24 : decode cX3_digitOf 24 = .ok (.iconst (-1), 1) := by decide +kernel
theorem dX3_digitOf_25 : decode cX3_digitOf 25 = .ok (.ireturn, 1) := by decide +kernel
theorem dX3_findFault_0 : decode cX3_findFault 0 = .ok (.aload_n 0, 1) := by decide +kernel
theorem dX3_findFault_1 : decode cX3_findFault 1 = .ok (.getfield 23, 3) := by decide +kernel
theorem dX3_findFault_4 : decode cX3_findFault 4 = .ok (.iconst 0, 1) := by decide +kernel
theorem dX3_findFault_5 : decode cX3_findFault 5 = .ok (.putfield 39, 3) := by decide +kernel
theorem dX3_findFault_8 : decode cX3_findFault 8 = .ok (.iconst 0, 1) := by decide +kernel
theorem dX3_findFault_9 : decode cX3_findFault 9 = .ok (.istore_n 1, 1) := by decide +kernel
theorem dX3_findFault_10 : decode cX3_findFault 10 = .ok (.iload_n 1, 1) := by decide +kernel
theorem dX3_findFault_11 : decode cX3_findFault 11 = .ok (.bipush 16, 2) := by decide +kernel
theorem dX3_findFault_13 : decode cX3_findFault 13 = .ok (.if_icmp .ge 76, 3) := by decide +kernel
theorem dX3_findFault_16 : decode cX3_findFault 16 = .ok (.aload_n 0, 1) := by decide +kernel
theorem dX3_findFault_17 : decode cX3_findFault 17 = .ok (.iload_n 1, 1) := by decide +kernel
theorem dX3_findFault_18 : decode cX3_findFault 18 = .ok (.invokevirtual 44, 3) := by decide +kernel
theorem dX3_findFault_21 : decode cX3_findFault 21 = .ok (.ifCond .ne 11, 3) := by decide +kernel
theorem dX3_findFault_24 : decode cX3_findFault 24 = .ok (.aload_n 0, 1) := by decide +kernel
theorem dX3_findFault_25 : decode cX3_findFault 25 = .ok (.getfield 23, 3) := by decide +kernel
theorem dX3_findFault_28 : decode cX3_findFault 28 = .ok (.getfield 39, 3) := by decide +kernel
theorem dX3_findFault_31 : decode cX3_findFault 31 = .ok (.ireturn, 1) := by decide +kernel
theorem dX3_findFault_32 : decode cX3_findFault 32 = .ok (.aload_n 0, 1) := by decide +kernel
theorem dX3_findFault_33 : decode cX3_findFault 33 = .ok (.getfield 19, 3) := by decide +kernel
theorem dX3_findFault_36 : decode cX3_findFault 36 = .ok (.aload_n 0, 1) := by decide +kernel
theorem dX3_findFault_37 : decode cX3_findFault 37 = .ok (.getfield 27, 3) := by decide +kernel
theorem dX3_findFault_40 : decode cX3_findFault 40 = .ok (.iload_n 1, 1) := by decide +kernel
theorem dX3_findFault_41 : decode cX3_findFault 41 = .ok (.iconst 1, 1) := by decide +kernel
theorem dX3_findFault_42 : decode cX3_findFault 42 = .ok (.iadd, 1) := by decide +kernel
theorem dX3_findFault_43 : decode cX3_findFault 43 = .ok (.iastore, 1) := by decide +kernel
theorem dX3_findFault_44 : decode cX3_findFault 44 = .ok (.aload_n 0, 1) := by decide +kernel
theorem dX3_findFault_45 : decode cX3_findFault 45 = .ok (.getfield 23, 3) := by decide +kernel
theorem dX3_findFault_48 : decode cX3_findFault 48 = .ok (.invokevirtual 47, 3) := by decide +kernel
theorem dX3_findFault_51 : decode cX3_findFault 51 = .ok (.iconst (-1), 1) := by decide +kernel
theorem dX3_findFault_52 : decode cX3_findFault 52 = .ok (.if_icmp .ne 5, 3) := by decide +kernel
theorem dX3_findFault_55 : decode cX3_findFault 55 = .ok (.iconst (-1), 1) := by decide +kernel
theorem dX3_findFault_56 : decode cX3_findFault 56 = .ok (.ireturn, 1) := by decide +kernel
theorem dX3_findFault_57 : decode cX3_findFault 57 = .ok (.iload_n 1, 1) := by decide +kernel
theorem dX3_findFault_58 : decode cX3_findFault 58 = .ok (.bipush 15, 2) := by decide +kernel
theorem dX3_findFault_60 : decode cX3_findFault 60 = .ok (.if_icmp .eq 15, 3) := by decide +kernel
theorem dX3_findFault_63 : decode cX3_findFault 63 = .ok (.aload_n 0, 1) := by decide +kernel
theorem dX3_findFault_64 : decode cX3_findFault 64 = .ok (.getfield 23, 3) := by decide +kernel
theorem dX3_findFault_67 : decode cX3_findFault 67 = .ok (.bipush 59, 2) := by decide +kernel
theorem dX3_findFault_69 : decode cX3_findFault 69 = .ok (.invokevirtual 51, 3) := by decide +kernel
theorem dX3_findFault_72 : decode cX3_findFault 72 = .ok (.ifCond .ne 11, 3) := by decide +kernel
theorem dX3_findFault_75 : decode cX3_findFault 75 = .ok (.aload_n 0, 1) := by decide +kernel
theorem dX3_findFault_76 : decode cX3_findFault 76 = .ok (.getfield 23, 3) := by decide +kernel
theorem dX3_findFault_79 : decode cX3_findFault 79 = .ok (.getfield 39, 3) := by decide +kernel
theorem dX3_findFault_82 : decode cX3_findFault 82 = .ok (.ireturn, 1) := by decide +kernel
theorem dX3_findFault_83 : decode cX3_findFault 83 = .ok (.iinc 1 1, 3) := by decide +kernel
theorem dX3_findFault_86 : decode cX3_findFault 86 = .ok (.goto (-76), 3) := by decide +kernel
theorem dX3_findFault_89 : decode cX3_findFault 89 = .ok (.aload_n 0, 1) := by decide +kernel
theorem dX3_findFault_90 : decode cX3_findFault 90 = .ok (.getfield 23, 3) := by decide +kernel
theorem dX3_findFault_93 : decode cX3_findFault 93 = .ok (.getfield 39, 3) := by decide +kernel
theorem dX3_findFault_96 : decode cX3_findFault 96 = .ok (.ireturn, 1) := by decide +kernel
theorem dX3_readStep_0 : decode cX3_readStep 0 = .ok (.ldc 55, 2) := by decide +kernel
theorem dX3_readStep_2 : decode cX3_readStep 2 = .ok (.aload_n 0, 1) := by decide +kernel
theorem dX3_readStep_3 : decode cX3_readStep 3 = .ok (.getfield 23, 3) := by decide +kernel
theorem dX3_readStep_6 : decode cX3_readStep 6 = .ok (.invokevirtual 47, 3) := by decide +kernel
theorem dX3_readStep_9 : decode cX3_readStep 9 = .ok (.invokestatic 57, 3) := by decide +kernel
theorem dX3_readStep_12 : decode cX3_readStep 12 = .ok (.istore_n 2, 1) := by decide +kernel
theorem dX3_readStep_13 : decode cX3_readStep 13 = .ok (.iload_n 2, 1) := by decide +kernel
theorem dX3_readStep_14 : decode cX3_readStep 14 = .ok (.iconst (-1), 1) := by decide +kernel
theorem dX3_readStep_15 : decode cX3_readStep 15 = .ok (.if_icmp .ne 5, 3) := by decide +kernel
theorem dX3_readStep_18 : decode cX3_readStep 18 = .ok (.iconst 0, 1) := by decide +kernel
theorem dX3_readStep_19 : decode cX3_readStep 19 = .ok (.ireturn, 1) := by decide +kernel
theorem dX3_readStep_20 : decode cX3_readStep 20 = .ok (.aload_n 0, 1) := by decide +kernel
theorem dX3_readStep_21 : decode cX3_readStep 21 = .ok (.getfield 23, 3) := by decide +kernel
theorem dX3_readStep_24 : decode cX3_readStep 24 = .ok (.dup, 1) := by decide +kernel
theorem dX3_readStep_25 : decode cX3_readStep 25 = .ok (.getfield 39, 3) := by decide +kernel
theorem dX3_readStep_28 : decode cX3_readStep 28 = .ok (.iconst 1, 1) := by decide +kernel
theorem dX3_readStep_29 : decode cX3_readStep 29 = .ok (.iadd, 1) := by decide +kernel
theorem dX3_readStep_30 : decode cX3_readStep 30 = .ok (.putfield 39, 3) := by decide +kernel
theorem dX3_readStep_33 : decode cX3_readStep 33 = .ok (.aload_n 0, 1) := by decide +kernel
theorem dX3_readStep_34 : decode cX3_readStep 34 = .ok (.getfield 13, 3) := by decide +kernel
theorem dX3_readStep_37 : decode cX3_readStep 37 = .ok (.aload_n 0, 1) := by decide +kernel
theorem dX3_readStep_38 : decode cX3_readStep 38 = .ok (.getfield 27, 3) := by decide +kernel
theorem dX3_readStep_41 : decode cX3_readStep 41 = .ok (.aaload, 1) := by decide +kernel
theorem dX3_readStep_42 : decode cX3_readStep 42 = .ok (.iload_n 1, 1) := by decide +kernel
theorem dX3_readStep_43 : decode cX3_readStep 43 = .ok (.iload_n 2, 1) := by decide +kernel
theorem dX3_readStep_44 : decode cX3_readStep 44 = .ok (.iastore, 1) := by decide +kernel
theorem dX3_readStep_45 : decode cX3_readStep 45 = .ok (.aload_n 0, 1) := by decide +kernel
theorem dX3_readStep_46 : decode cX3_readStep 46 = .ok (.getfield 16, 3) := by decide +kernel
theorem dX3_readStep_49 : decode cX3_readStep 49 = .ok (.aload_n 0, 1) := by decide +kernel
theorem dX3_readStep_50 : decode cX3_readStep 50 = .ok (.getfield 27, 3) := by decide +kernel
theorem dX3_readStep_53 : decode cX3_readStep 53 = .ok (.aaload, 1) := by decide +kernel
theorem dX3_readStep_54 : decode cX3_readStep 54 = .ok (.iload_n 1, 1) := by decide +kernel
theorem dX3_readStep_55 : decode cX3_readStep 55 = .ok (.iconst (-1), 1) := by decide +kernel
theorem dX3_readStep_56 : decode cX3_readStep 56 = .ok (.iastore, 1) := by decide +kernel
theorem dX3_readStep_57 : decode cX3_readStep 57 = .ok (.iload_n 2, 1) := by decide +kernel
theorem dX3_readStep_58 : decode cX3_readStep 58 = .ok (.ifCond .eq 10, 3) := by decide +kernel
theorem dX3_readStep_61 : decode cX3_readStep 61 = .ok (.iload_n 2, 1) := by decide +kernel
theorem dX3_readStep_62 : decode cX3_readStep 62 = .ok (.iconst 2, 1) := by decide +kernel
theorem dX3_readStep_63 : decode cX3_readStep 63 = .ok (.if_icmp .eq 5, 3) := by decide +kernel
theorem dX3_readStep_66 : decode cX3_readStep 66 = .ok (.iconst 1, 1) := by decide +kernel
theorem dX3_readStep_67 : decode cX3_readStep 67 = .ok (.ireturn, 1) := by decide +kernel
theorem dX3_readStep_68 : decode cX3_readStep 68 = .ok (.aload_n 0, 1) := by decide +kernel
theorem dX3_readStep_69 : decode cX3_readStep 69 = .ok (.getfield 23, 3) := by decide +kernel
theorem dX3_readStep_72 : decode cX3_readStep 72 = .ok (.invokevirtual 47, 3) := by decide +kernel
theorem dX3_readStep_75 : decode cX3_readStep 75 = .ok (.istore_n 3, 1) := by decide +kernel
theorem dX3_readStep_76 : decode cX3_readStep 76 = .ok (.iload_n 3, 1) := by decide +kernel
theorem dX3_readStep_77 : decode cX3_readStep 77 = .ok (.invokestatic 61, 3) := by decide +kernel
theorem dX3_readStep_80 : decode cX3_readStep 80 = .ok (.ifCond .ne 5, 3) := by decide +kernel
theorem dX3_readStep_83 : decode cX3_readStep 83 = .ok (.iconst 0, 1) := by decide +kernel
theorem dX3_readStep_84 : decode cX3_readStep 84 = .ok (.ireturn, 1) := by decide +kernel
theorem dX3_readStep_85 : decode cX3_readStep 85 = .ok (.aload_n 0, 1) := by decide +kernel
theorem dX3_readStep_86 : decode cX3_readStep 86 = .ok (.getfield 16, 3) := by decide +kernel
theorem dX3_readStep_89 : decode cX3_readStep 89 = .ok (.aload_n 0, 1) := by decide +kernel
theorem dX3_readStep_90 : decode cX3_readStep 90 = .ok (.getfield 27, 3) := by decide +kernel
theorem dX3_readStep_93 : decode cX3_readStep 93 = .ok (.aaload, 1) := by decide +kernel
theorem dX3_readStep_94 : decode cX3_readStep 94 = .ok (.iload_n 1, 1) := by decide +kernel
theorem dX3_readStep_95 : decode cX3_readStep 95 = .ok (.iload_n 3, 1) := by decide +kernel
theorem dX3_readStep_96 : decode cX3_readStep 96 = .ok (.bipush 48, 2) := by decide +kernel
theorem dX3_readStep_98 : decode cX3_readStep 98 = .ok (.isub, 1) := by decide +kernel
theorem dX3_readStep_99 : decode cX3_readStep 99 = .ok (.iastore, 1) := by decide +kernel
theorem dX3_readStep_100 : decode cX3_readStep 100 = .ok (.aload_n 0, 1) := by decide +kernel
theorem dX3_readStep_101 : decode cX3_readStep 101 = .ok (.getfield 23, 3) := by decide +kernel
theorem dX3_readStep_104 : decode cX3_readStep 104 = .ok (.dup, 1) := by decide +kernel
theorem dX3_readStep_105 : decode cX3_readStep 105 = .ok (.getfield 39, 3) := by decide +kernel
theorem dX3_readStep_108 : decode cX3_readStep 108 = .ok (.iconst 1, 1) := by decide +kernel
theorem dX3_readStep_109 : decode cX3_readStep 109 = .ok (.iadd, 1) := by decide +kernel
theorem dX3_readStep_110 : decode cX3_readStep 110 = .ok (.putfield 39, 3) := by decide +kernel
theorem dX3_readStep_113 : decode cX3_readStep 113 = .ok (.iconst 1, 1) := by decide +kernel
theorem dX3_readStep_114 : decode cX3_readStep 114 = .ok (.ireturn, 1) := by decide +kernel
theorem dX4_init_0 : decode cX4_init 0 = .ok (.aload_n 0, 1) := by decide +kernel
theorem dX4_init_1 : decode cX4_init 1 = .ok (.invokespecial 3, 3) := by decide +kernel
theorem dX4_init_4 : decode cX4_init 4 = .ok (.aload_n 0, 1) := by decide +kernel
theorem dX4_init_5 : decode cX4_init 5 = .ok (.sipush 300, 3) := by decide +kernel
theorem dX4_init_8 : decode cX4_init 8 = .ok (.newarray .int, 2) := by decide +kernel
theorem dX4_init_10 : decode cX4_init 10 = .ok (.putfield 11, 3) := by decide +kernel
theorem dX4_init_13 : decode cX4_init 13 = .ok (.return_, 1) := by decide +kernel
theorem dX4_rowOf_0 : decode cX4_rowOf 0 = .ok (.iload_n 0, 1) := by decide +kernel
theorem dX4_rowOf_1 : decode cX4_rowOf 1 = .ok (.bipush 100, 2) := by decide +kernel
theorem dX4_rowOf_3 : decode cX4_rowOf 3 = .ok (.invokestatic 15, 3) := by decide +kernel
theorem dX4_rowOf_6 : decode cX4_rowOf 6 = .ok (.iconst 3, 1) := by decide +kernel
theorem dX4_rowOf_7 : decode cX4_rowOf 7 = .ok (.imul, 1) := by decide +kernel
theorem dX4_rowOf_8 : decode cX4_rowOf 8 = .ok (.ireturn, 1) := by decide +kernel
theorem dX4_lengthOn_0 : decode cX4_lengthOn 0 = .ok (.bipush 60, 2) := by decide +kernel
theorem dX4_lengthOn_2 : decode cX4_lengthOn 2 = .ok (.iload_n 0, 1) := by decide +kernel
theorem dX4_lengthOn_3 : decode cX4_lengthOn 3 = .ok (.invokestatic 21, 3) := by decide +kernel
theorem dX4_lengthOn_6 : decode cX4_lengthOn 6 = .ok (.ireturn, 1) := by decide +kernel
theorem dX4_copyFrom_0 : decode cX4_copyFrom 0 = .ok (.aload_n 1, 1) := by decide +kernel
theorem dX4_copyFrom_1 : decode cX4_copyFrom 1 = .ok (.getfield 11, 3) := by decide +kernel
theorem dX4_copyFrom_4 : decode cX4_copyFrom 4 = .ok (.iconst 0, 1) := by decide +kernel
theorem dX4_copyFrom_5 : decode cX4_copyFrom 5 = .ok (.aload_n 0, 1) := by decide +kernel
theorem dX4_copyFrom_6 : decode cX4_copyFrom 6 = .ok (.getfield 11, 3) := by decide +kernel
theorem dX4_copyFrom_9 : decode cX4_copyFrom 9 = .ok (.iconst 0, 1) := by decide +kernel
theorem dX4_copyFrom_10 : decode cX4_copyFrom 10 = .ok (.aload_n 0, 1) := by decide +kernel
theorem dX4_copyFrom_11 : decode cX4_copyFrom 11 = .ok (.getfield 11, 3) := by decide +kernel
theorem dX4_copyFrom_14 : decode cX4_copyFrom 14 = .ok (.arraylength, 1) := by decide +kernel
theorem dX4_copyFrom_15 : decode cX4_copyFrom 15 = .ok (.invokestatic 24, 3) := by decide +kernel
theorem dX4_copyFrom_18 : decode cX4_copyFrom 18 = .ok (.return_, 1) := by decide +kernel
theorem dX4_write_0 : decode cX4_write 0 = .ok (.aload_n 1, 1) := by decide +kernel
theorem dX4_write_1 : decode cX4_write 1 = .ok (.invokevirtual 30, 3) := by decide +kernel
theorem dX4_write_4 : decode cX4_write 4 = .ok (.invokestatic 36, 3) := by decide +kernel
theorem dX4_write_7 : decode cX4_write 7 = .ok (.istore_n 2, 1) := by decide +kernel
theorem dX4_write_8 : decode cX4_write 8 = .ok (.aload_n 0, 1) := by decide +kernel
theorem dX4_write_9 : decode cX4_write 9 = .ok (.getfield 11, 3) := by decide +kernel
theorem dX4_write_12 : decode cX4_write 12 = .ok (.iload_n 2, 1) := by decide +kernel
theorem dX4_write_13 : decode cX4_write 13 = .ok (.aload_n 1, 1) := by decide +kernel
theorem dX4_write_14 : decode cX4_write 14 = .ok (.invokevirtual 40, 3) := by decide +kernel
theorem dX4_write_17 : decode cX4_write 17 = .ok (.iastore, 1) := by decide +kernel
theorem dX4_write_18 : decode cX4_write 18 = .ok (.aload_n 0, 1) := by decide +kernel
theorem dX4_write_19 : decode cX4_write 19 = .ok (.getfield 11, 3) := by decide +kernel
theorem dX4_write_22 : decode cX4_write 22 = .ok (.iload_n 2, 1) := by decide +kernel
theorem dX4_write_23 : decode cX4_write 23 = .ok (.iconst 1, 1) := by decide +kernel
theorem dX4_write_24 : decode cX4_write 24 = .ok (.iadd, 1) := by decide +kernel
theorem dX4_write_25 : decode cX4_write 25 = .ok (.aload_n 1, 1) := by decide +kernel
theorem dX4_write_26 : decode cX4_write 26 = .ok (.invokevirtual 43, 3) := by decide +kernel
theorem dX4_write_29 : decode cX4_write 29 = .ok (.iastore, 1) := by decide +kernel
theorem dX4_write_30 : decode cX4_write 30 = .ok (.aload_n 0, 1) := by decide +kernel
theorem dX4_write_31 : decode cX4_write 31 = .ok (.getfield 11, 3) := by decide +kernel
theorem dX4_write_34 : decode cX4_write 34 = .ok (.iload_n 2, 1) := by decide +kernel
theorem dX4_write_35 : decode cX4_write 35 = .ok (.iconst 2, 1) := by decide +kernel
theorem dX4_write_36 : decode cX4_write 36 = .ok (.iadd, 1) := by decide +kernel
theorem dX4_write_37 : decode cX4_write 37 = .ok (.aload_n 1, 1) := by decide +kernel
theorem dX4_write_38 : decode cX4_write 38 = .ok (.invokevirtual 46, 3) := by decide +kernel
theorem dX4_write_41 : decode cX4_write 41 = .ok (.iastore, 1) := by decide +kernel
theorem dX4_write_42 : decode cX4_write 42 = .ok (.return_, 1) := by decide +kernel
theorem dX4_read_0 : decode cX4_read 0 = .ok (.iload_n 2, 1) := by decide +kernel
theorem dX4_read_1 : decode cX4_read 1 = .ok (.ifCond .lt 20, 3) := by decide +kernel
theorem dX4_read_4 : decode cX4_read 4 = .ok (.iload_n 2, 1) := by decide +kernel
theorem dX4_read_5 : decode cX4_read 5 = .ok (.iload_n 1, 1) := by decide +kernel
theorem dX4_read_6 : decode cX4_read 6 = .ok (.invokestatic 49, 3) := by decide +kernel
theorem dX4_read_9 : decode cX4_read 9 = .ok (.if_icmp .ge 12, 3) := by decide +kernel
theorem dX4_read_12 : decode cX4_read 12 = .ok (.iload_n 3, 1) := by decide +kernel
theorem dX4_read_13 : decode cX4_read 13 = .ok (.ifCond .lt 8, 3) := by decide +kernel
theorem dX4_read_16 : decode cX4_read 16 = .ok (.iload_n 3, 1) := by decide +kernel
theorem dX4_read_17 : decode cX4_read 17 = .ok (.iconst 3, 1) := by decide +kernel
theorem dX4_read_18 : decode cX4_read 18 = .ok (.if_icmp .lt 5, 3) := by decide +kernel
theorem dX4_read_21 : decode cX4_read 21 = .ok (.iconst (-1), 1) := by decide +kernel
theorem dX4_read_22 : decode cX4_read 22 = .ok (.ireturn, 1) := by decide +kernel
theorem dX4_read_23 : decode cX4_read 23 = .ok (.aload_n 0, 1) := by decide +kernel
theorem dX4_read_24 : decode cX4_read 24 = .ok (.getfield 11, 3) := by decide +kernel
theorem dX4_read_27 : decode cX4_read 27 = .ok (.iload_n 1, 1) := by decide +kernel
theorem dX4_read_28 : decode cX4_read 28 = .ok (.iconst 1, 1) := by decide +kernel
theorem dX4_read_29 : decode cX4_read 29 = .ok (.isub, 1) := by decide +kernel
theorem dX4_read_30 : decode cX4_read 30 = .ok (.iload_n 2, 1) := by decide +kernel
theorem dX4_read_31 : decode cX4_read 31 = .ok (.isub, 1) := by decide +kernel
theorem dX4_read_32 : decode cX4_read 32 = .ok (.invokestatic 36, 3) := by decide +kernel
theorem dX4_read_35 : decode cX4_read 35 = .ok (.iload_n 3, 1) := by decide +kernel
theorem dX4_read_36 : decode cX4_read 36 = .ok (.iadd, 1) := by decide +kernel
theorem dX4_read_37 : decode cX4_read 37 = .ok (.iaload, 1) := by decide +kernel
theorem dX4_read_38 : decode cX4_read 38 = .ok (.ireturn, 1) := by decide +kernel
theorem dX5_init_0 : decode cX5_init 0 = .ok (.aload_n 0, 1) := by decide +kernel
theorem dX5_init_1 : decode cX5_init 1 = .ok (.invokespecial 3, 3) := by decide +kernel
theorem dX5_init_4 : decode cX5_init 4 = .ok (.aload_n 0, 1) := by decide +kernel
theorem dX5_init_5 : decode cX5_init 5 = .ok (.bipush 6, 2) := by decide +kernel
theorem dX5_init_7 : decode cX5_init 7 = .ok (.newarray .int, 2) := by decide +kernel
theorem dX5_init_9 : decode cX5_init 9 = .ok (.putfield 9, 3) := by decide +kernel
theorem dX5_init_12 : decode cX5_init 12 = .ok (.aload_n 0, 1) := by decide +kernel
theorem dX5_init_13 : decode cX5_init 13 = .ok (.iconst (-1), 1) := by decide +kernel
theorem dX5_init_14 : decode cX5_init 14 = .ok (.putfield 15, 3) := by decide +kernel
theorem dX5_init_17 : decode cX5_init 17 = .ok (.aload_n 0, 1) := by decide +kernel
theorem dX5_init_18 : decode cX5_init 18 = .ok (.iconst 5, 1) := by decide +kernel
theorem dX5_init_19 : decode cX5_init 19 = .ok (.sipush 240, 3) := by decide +kernel
theorem dX5_init_22 : decode cX5_init 22 = .ok (.multianewarray 19 2, 4) := by decide +kernel
theorem dX5_init_26 : decode cX5_init 26 = .ok (.putfield 21, 3) := by decide +kernel
theorem dX5_init_29 : decode cX5_init 29 = .ok (.aload_n 0, 1) := by decide +kernel
theorem dX5_init_30 : decode cX5_init 30 = .ok (.iconst 5, 1) := by decide +kernel
theorem dX5_init_31 : decode cX5_init 31 = .ok (.newarray .int, 2) := by decide +kernel
theorem dX5_init_33 : decode cX5_init 33 = .ok (.putfield 24, 3) := by decide +kernel
theorem dX5_init_36 : decode cX5_init 36 = .ok (.aload_n 0, 1) := by decide +kernel
theorem dX5_init_37 : decode cX5_init 37 = .ok (.bipush 64, 2) := by decide +kernel
theorem dX5_init_39 : decode cX5_init 39 = .ok (.newarray .int, 2) := by decide +kernel
theorem dX5_init_41 : decode cX5_init 41 = .ok (.putfield 27, 3) := by decide +kernel
theorem dX5_init_44 : decode cX5_init 44 = .ok (.aload_n 0, 1) := by decide +kernel
theorem dX5_init_45 : decode cX5_init 45 = .ok (.aload_n 1, 1) := by decide +kernel
theorem dX5_init_46 : decode cX5_init 46 = .ok (.putfield 30, 3) := by decide +kernel
theorem dX5_init_49 : decode cX5_init 49 = .ok (.return_, 1) := by decide +kernel
theorem dX5_keepDraft_0 : decode cX5_keepDraft 0 = .ok (.aload_n 0, 1) := by decide +kernel
theorem dX5_keepDraft_1 : decode cX5_keepDraft 1 = .ok (.getfield 34, 3) := by decide +kernel
theorem dX5_keepDraft_4 : decode cX5_keepDraft 4 = .ok (.iconst 4, 1) := by decide +kernel
theorem dX5_keepDraft_5 : decode cX5_keepDraft 5 = .ok (.if_icmp .lt 5, 3) := by decide +kernel
theorem dX5_keepDraft_8 : decode cX5_keepDraft 8 = .ok (.iconst (-1), 1) := by decide +kernel
theorem dX5_keepDraft_9 : decode cX5_keepDraft 9 = .ok (.ireturn, 1) := by decide +kernel
theorem dX5_keepDraft_10 : decode cX5_keepDraft 10 = .ok (.aload_n 0, 1) := by decide +kernel
theorem dX5_keepDraft_11 : decode cX5_keepDraft 11 = .ok (.dup, 1) := by decide +kernel
theorem dX5_keepDraft_12 : decode cX5_keepDraft 12 = .ok (.getfield 34, 3) := by decide +kernel
theorem dX5_keepDraft_15 : decode cX5_keepDraft 15 = .ok (.iconst 1, 1) := by decide +kernel
theorem dX5_keepDraft_16 : decode cX5_keepDraft 16 = .ok (.iadd, 1) := by decide +kernel
theorem dX5_keepDraft_17 : decode cX5_keepDraft 17 = .ok (.putfield 34, 3) := by decide +kernel
theorem dX5_keepDraft_20 : decode cX5_keepDraft 20 = .ok (.aload_n 0, 1) := by decide +kernel
theorem dX5_keepDraft_21 : decode cX5_keepDraft 21 = .ok (.getfield 34, 3) := by decide +kernel
theorem dX5_keepDraft_24 : decode cX5_keepDraft 24 = .ok (.iconst 1, 1) := by decide +kernel
theorem dX5_keepDraft_25 : decode cX5_keepDraft 25 = .ok (.isub, 1) := by decide +kernel
theorem dX5_keepDraft_26 : decode cX5_keepDraft 26 = .ok (.ireturn, 1) := by decide +kernel
theorem dX5_findFault_0 : decode cX5_findFault 0 = .ok (.aload_n 0, 1) := by decide +kernel
theorem dX5_findFault_1 : decode cX5_findFault 1 = .ok (.getfield 30, 3) := by decide +kernel
theorem dX5_findFault_4 : decode cX5_findFault 4 = .ok (.iconst 0, 1) := by decide +kernel
theorem dX5_findFault_5 : decode cX5_findFault 5 = .ok (.putfield 37, 3) := by decide +kernel
theorem dX5_findFault_8 : decode cX5_findFault 8 = .ok (.aload_n 0, 1) := by decide +kernel
theorem dX5_findFault_9 : decode cX5_findFault 9 = .ok (.getfield 24, 3) := by decide +kernel
theorem dX5_findFault_12 : decode cX5_findFault 12 = .ok (.aload_n 0, 1) := by decide +kernel
theorem dX5_findFault_13 : decode cX5_findFault 13 = .ok (.getfield 34, 3) := by decide +kernel
theorem dX5_findFault_16 : decode cX5_findFault 16 = .ok (.iconst 0, 1) := by decide +kernel
theorem dX5_findFault_17 : decode cX5_findFault 17 = .ok (.iastore, 1) := by decide +kernel
theorem dX5_findFault_18 : decode cX5_findFault 18 = .ok (.iconst 0, 1) := by decide +kernel
theorem dX5_findFault_19 : decode cX5_findFault 19 = .ok (.istore_n 1, 1) := by decide +kernel
theorem dX5_findFault_20 : decode cX5_findFault 20 = .ok (.iload_n 1, 1) := by decide +kernel
theorem dX5_findFault_21 : decode cX5_findFault 21 = .ok (.sipush 240, 3) := by decide +kernel
theorem dX5_findFault_24 : decode cX5_findFault 24 = .ok (.if_icmp .gt 57, 3) := by decide +kernel
theorem dX5_findFault_27 : decode cX5_findFault 27 = .ok (.aload_n 0, 1) := by decide +kernel
theorem dX5_findFault_28 : decode cX5_findFault 28 = .ok (.invokevirtual 42, 3) := by decide +kernel
theorem dX5_findFault_31 : decode cX5_findFault 31 = .ok (.ifCond .ne 11, 3) := by decide +kernel
theorem dX5_findFault_34 : decode cX5_findFault 34 = .ok (.aload_n 0, 1) := by decide +kernel
theorem dX5_findFault_35 : decode cX5_findFault 35 = .ok (.getfield 30, 3) := by decide +kernel
theorem dX5_findFault_38 : decode cX5_findFault 38 = .ok (.getfield 37, 3) := by decide +kernel
theorem dX5_findFault_41 : decode cX5_findFault 41 = .ok (.ireturn, 1) := by decide +kernel
theorem dX5_findFault_42 : decode cX5_findFault 42 = .ok (.aload_n 0, 1) := by decide +kernel
theorem dX5_findFault_43 : decode cX5_findFault 43 = .ok (.getfield 30, 3) := by decide +kernel
theorem dX5_findFault_46 : decode cX5_findFault 46 = .ok (.invokevirtual 46, 3) := by decide +kernel
theorem dX5_findFault_49 : decode cX5_findFault 49 = .ok (.iconst (-1), 1) := by decide +kernel
theorem dX5_findFault_50 : decode cX5_findFault 50 = .ok (.if_icmp .ne 5, 3) := by decide +kernel
theorem dX5_findFault_53 : decode cX5_findFault 53 = .ok (.iconst (-1), 1) := by decide +kernel
theorem dX5_findFault_54 : decode cX5_findFault 54 = .ok (.ireturn, 1) := by decide +kernel
theorem dX5_findFault_55 : decode cX5_findFault 55 = .ok (.aload_n 0, 1) := by decide +kernel
theorem dX5_findFault_56 : decode cX5_findFault 56 = .ok (.getfield 30, 3) := by decide +kernel
theorem dX5_findFault_59 : decode cX5_findFault 59 = .ok (.bipush 59, 2) := by decide +kernel
theorem dX5_findFault_61 : decode cX5_findFault 61 = .ok (.invokevirtual 50, 3) := by decide +kernel
theorem dX5_findFault_64 : decode cX5_findFault 64 = .ok (.ifCond .ne 11, 3) := by decide +kernel
theorem dX5_findFault_67 : decode cX5_findFault 67 = .ok (.aload_n 0, 1) := by decide +kernel
theorem dX5_findFault_68 : decode cX5_findFault 68 = .ok (.getfield 30, 3) := by decide +kernel
theorem dX5_findFault_71 : decode cX5_findFault 71 = .ok (.getfield 37, 3) := by decide +kernel
theorem dX5_findFault_74 : decode cX5_findFault 74 = .ok (.ireturn, 1) := by decide +kernel
theorem dX5_findFault_75 : decode cX5_findFault 75 = .ok (.iinc 1 1, 3) := by decide +kernel
theorem dX5_findFault_78 : decode cX5_findFault 78 = .ok (.goto (-58), 3) := by decide +kernel
theorem dX5_findFault_81 : decode cX5_findFault 81 = .ok (.aload_n 0, 1) := by decide +kernel
theorem dX5_findFault_82 : decode cX5_findFault 82 = .ok (.getfield 30, 3) := by decide +kernel
theorem dX5_findFault_85 : decode cX5_findFault 85 = .ok (.getfield 37, 3) := by decide +kernel
theorem dX5_findFault_88 : decode cX5_findFault 88 = .ok (.ireturn, 1) := by decide +kernel
theorem dX5_add_0 : decode cX5_add 0 = .ok (.aload_n 0, 1) := by decide +kernel
theorem dX5_add_1 : decode cX5_add 1 = .ok (.getfield 24, 3) := by decide +kernel
theorem dX5_add_4 : decode cX5_add 4 = .ok (.aload_n 0, 1) := by decide +kernel
theorem dX5_add_5 : decode cX5_add 5 = .ok (.getfield 34, 3) := by decide +kernel
theorem dX5_add_8 : decode cX5_add 8 = .ok (.iaload, 1) := by decide +kernel
theorem dX5_add_9 : decode cX5_add 9 = .ok (.istore_n 2, 1) := by decide +kernel
theorem dX5_add_10 : decode cX5_add 10 = .ok (.iload_n 2, 1) := by decide +kernel
theorem dX5_add_11 : decode cX5_add 11 = .ok (.sipush 240, 3) := by decide +kernel
theorem dX5_add_14 : decode cX5_add 14 = .ok (.if_icmp .ge 27, 3) := by decide +kernel
theorem dX5_add_17 : decode cX5_add 17 = .ok (.aload_n 0, 1) := by decide +kernel
theorem dX5_add_18 : decode cX5_add 18 = .ok (.getfield 21, 3) := by decide +kernel
theorem dX5_add_21 : decode cX5_add 21 = .ok (.aload_n 0, 1) := by decide +kernel
theorem dX5_add_22 : decode cX5_add 22 = .ok (.getfield 34, 3) := by decide +kernel
theorem dX5_add_25 : decode cX5_add 25 = .ok (.aaload, 1) := by decide +kernel
theorem dX5_add_26 : decode cX5_add 26 = .ok (.iload_n 2, 1) := by decide +kernel
theorem dX5_add_27 : decode cX5_add 27 = .ok (.iload_n 1, 1) := by decide +kernel
theorem dX5_add_28 : decode cX5_add 28 = .ok (.iastore, 1) := by decide +kernel
theorem dX5_add_29 : decode cX5_add 29 = .ok (.aload_n 0, 1) := by decide +kernel
theorem dX5_add_30 : decode cX5_add 30 = .ok (.getfield 24, 3) := by decide +kernel
theorem dX5_add_33 : decode cX5_add 33 = .ok (.aload_n 0, 1) := by decide +kernel
theorem dX5_add_34 : decode cX5_add 34 = .ok (.getfield 34, 3) := by decide +kernel
theorem dX5_add_37 : decode cX5_add 37 = .ok (.iload_n 2, 1) := by decide +kernel
theorem dX5_add_38 : decode cX5_add 38 = .ok (.iconst 1, 1) := by decide +kernel
theorem dX5_add_39 : decode cX5_add 39 = .ok (.iadd, 1) := by decide +kernel
theorem dX5_add_40 : decode cX5_add 40 = .ok (.iastore, 1) := by decide +kernel
theorem dX5_add_41 : decode cX5_add 41 = .ok (.return_, 1) := by decide +kernel
theorem dX5_readClause_0 : decode cX5_readClause 0 = .ok (.aload_n 0, 1) := by decide +kernel
theorem dX5_readClause_1 : decode cX5_readClause 1 = .ok (.getfield 30, 3) := by decide +kernel
theorem dX5_readClause_4 : decode cX5_readClause 4 = .ok (.bipush 121, 2) := by decide +kernel
theorem dX5_readClause_6 : decode cX5_readClause 6 = .ok (.invokevirtual 50, 3) := by decide +kernel
theorem dX5_readClause_9 : decode cX5_readClause 9 = .ok (.ifCond .eq 15, 3) := by decide +kernel
theorem dX5_readClause_12 : decode cX5_readClause 12 = .ok (.aload_n 0, 1) := by decide +kernel
theorem dX5_readClause_13 : decode cX5_readClause 13 = .ok (.getfield 30, 3) := by decide +kernel
theorem dX5_readClause_16 : decode cX5_readClause 16 = .ok (.bipush 58, 2) := by decide +kernel
theorem dX5_readClause_18 : decode cX5_readClause 18 = .ok (.invokevirtual 50, 3) := by decide +kernel
theorem dX5_readClause_21 : decode cX5_readClause 21 = .ok (.ifCond .ne 5, 3) := by decide +kernel
theorem dX5_readClause_24 : decode cX5_readClause 24 = .ok (.iconst 0, 1) := by decide +kernel
theorem dX5_readClause_25 : decode cX5_readClause 25 = .ok (.ireturn, 1) := by decide +kernel
theorem dX5_readClause_26 : decode cX5_readClause 26 = .ok (.aload_n 0, 1) := by decide +kernel
theorem dX5_readClause_27 : decode cX5_readClause 27 = .ok (.getfield 30, 3) := by decide +kernel
theorem dX5_readClause_30 : decode cX5_readClause 30 = .ok (.invokevirtual 46, 3) := by decide +kernel
theorem dX5_readClause_33 : decode cX5_readClause 33 = .ok (.invokestatic 54, 3) := by decide +kernel
theorem dX5_readClause_36 : decode cX5_readClause 36 = .ok (.ifCond .ne 7, 3) := by decide +kernel
theorem dX5_readClause_39 : decode cX5_readClause 39 = .ok (.iconst 1, 1) := by decide +kernel
theorem dX5_readClause_40 : decode cX5_readClause 40 = .ok (.goto 4, 3) := by decide +kernel
theorem dX5_readClause_43 : decode cX5_readClause 43 = .ok (.iconst 0, 1) := by decide +kernel
theorem dX5_readClause_44 : decode cX5_readClause 44 = .ok (.istore_n 1, 1) := by decide +kernel
theorem dX5_readClause_45 : decode cX5_readClause 45 = .ok (.iload_n 1, 1) := by decide +kernel
theorem dX5_readClause_46 : decode cX5_readClause 46 = .ok (.ifCond .eq 13, 3) := by decide +kernel
theorem dX5_readClause_49 : decode cX5_readClause 49 = .ok (.aload_n 0, 1) := by decide +kernel
theorem dX5_readClause_50 : decode cX5_readClause 50 = .ok (.iconst 0, 1) := by decide +kernel
theorem dX5_readClause_51 : decode cX5_readClause 51 = .ok (.invokevirtual 58, 3) := by decide +kernel
theorem dX5_readClause_54 : decode cX5_readClause 54 = .ok (.ifCond .ne 5, 3) := by decide +kernel
theorem dX5_readClause_57 : decode cX5_readClause 57 = .ok (.iconst 0, 1) := by decide +kernel
theorem dX5_readClause_58 : decode cX5_readClause 58 = .ok (.ireturn, 1) := by decide +kernel
theorem dX5_readClause_59 : decode cX5_readClause 59 = .ok (.iload_n 1, 1) := by decide +kernel
theorem dX5_readClause_60 : decode cX5_readClause 60 = .ok (.ifCond .eq 16, 3) := by decide +kernel
theorem dX5_readClause_63 : decode cX5_readClause 63 = .ok (.aload_n 0, 1) := by decide +kernel
theorem dX5_readClause_64 : decode cX5_readClause 64 = .ok (.getfield 30, 3) := by decide +kernel
theorem dX5_readClause_67 : decode cX5_readClause 67 = .ok (.invokevirtual 46, 3) := by decide +kernel
theorem dX5_readClause_70 : decode cX5_readClause 70 = .ok (.invokestatic 61, 3) := by decide +kernel
theorem dX5_readClause_73 : decode cX5_readClause 73 = .ok (.ifCond .eq 42, 3) := by decide +kernel
theorem dX5_readClause_76 : decode cX5_readClause 76 = .ok (.aload_n 0, 1) := by decide +kernel
theorem dX5_readClause_77 : decode cX5_readClause 77 = .ok (.iconst 0, 1) := by decide +kernel
theorem dX5_readClause_78 : decode cX5_readClause 78 = .ok (.iload_n 1, 1) := by decide +kernel
theorem dX5_readClause_79 : decode cX5_readClause 79 = .ok (.invokevirtual 64, 3) := by decide +kernel
theorem dX5_readClause_82 : decode cX5_readClause 82 = .ok (.ifCond .eq 15, 3) := by decide +kernel
theorem dX5_readClause_85 : decode cX5_readClause 85 = .ok (.aload_n 0, 1) := by decide +kernel
theorem dX5_readClause_86 : decode cX5_readClause 86 = .ok (.getfield 30, 3) := by decide +kernel
theorem dX5_readClause_89 : decode cX5_readClause 89 = .ok (.bipush 63, 2) := by decide +kernel
theorem dX5_readClause_91 : decode cX5_readClause 91 = .ok (.invokevirtual 50, 3) := by decide +kernel
theorem dX5_readClause_94 : decode cX5_readClause 94 = .ok (.ifCond .ne 5, 3) := by decide +kernel
theorem dX5_readClause_97 : decode cX5_readClause 97 = .ok (.iconst 0, 1) := by decide +kernel
theorem dX5_readClause_98 : decode cX5_readClause 98 = .ok (.ireturn, 1) := by decide +kernel
theorem dX5_readClause_99 : decode cX5_readClause 99 = .ok (.aload_n 0, 1) := by decide +kernel
theorem dX5_readClause_100 : decode cX5_readClause 100 = .ok (.bipush (-63), 2) := by decide +kernel
theorem dX5_readClause_102 : decode cX5_readClause 102 = .ok (.invokevirtual 68, 3) := by decide +kernel
theorem dX5_readClause_105 : decode cX5_readClause 105 = .ok (.aload_n 0, 1) := by decide +kernel
theorem dX5_readClause_106 : decode cX5_readClause 106 = .ok (.iconst 0, 1) := by decide +kernel
theorem dX5_readClause_107 : decode cX5_readClause 107 = .ok (.invokevirtual 58, 3) := by decide +kernel
theorem dX5_readClause_110 : decode cX5_readClause 110 = .ok (.ifCond .ne 5, 3) := by decide +kernel
theorem dX5_readClause_113 : decode cX5_readClause 113 = .ok (.iconst 0, 1) := by decide +kernel
theorem dX5_readClause_114 : decode cX5_readClause 114 = .ok (.ireturn, 1) := by decide +kernel
theorem dX5_readClause_115 : decode cX5_readClause 115 = .ok (.aload_n 0, 1) := by decide +kernel
theorem dX5_readClause_116 : decode cX5_readClause 116 = .ok (.bipush (-59), 2) := by decide +kernel
theorem dX5_readClause_118 : decode cX5_readClause 118 = .ok (.invokevirtual 68, 3) := by decide +kernel
theorem dX5_readClause_121 : decode cX5_readClause 121 = .ok (.iconst 1, 1) := by decide +kernel
theorem dX5_readClause_122 : decode cX5_readClause 122 = .ok (.ireturn, 1) := by decide +kernel
theorem dX5_isNesting_0 : decode cX5_isNesting 0 = .ok (.iload_n 0, 1) := by decide +kernel
theorem dX5_isNesting_1 : decode cX5_isNesting 1 = .ok (.bipush 33, 2) := by decide +kernel
theorem dX5_isNesting_3 : decode cX5_isNesting 3 = .ok (.if_icmp .eq 9, 3) := by decide +kernel
theorem dX5_isNesting_6 : decode cX5_isNesting 6 = .ok (.iload_n 0, 1) := by decide +kernel
theorem dX5_isNesting_7 : decode cX5_isNesting 7 = .ok (.bipush 40, 2) := by decide +kernel
theorem dX5_isNesting_9 : decode cX5_isNesting 9 = .ok (.if_icmp .ne 7, 3) := by decide +kernel
theorem dX5_isNesting_12 : decode cX5_isNesting 12 = .ok (.iconst 1, 1) := by decide +kernel
theorem dX5_isNesting_13 : decode cX5_isNesting 13 = .ok (.goto 4, 3) := by decide +kernel
theorem dX5_isNesting_16 : decode cX5_isNesting 16 = .ok (.iconst 0, 1) := by decide +kernel
theorem dX5_isNesting_17 : decode cX5_isNesting 17 = .ok (.ireturn, 1) := by decide +kernel
theorem dX5_isComparing_0 : decode cX5_isComparing 0 = .ok (.iload_n 0, 1) := by decide +kernel
theorem dX5_isComparing_1 : decode cX5_isComparing 1 = .ok (.bipush 61, 2) := by decide +kernel
theorem dX5_isComparing_3 : decode cX5_isComparing 3 = .ok (.if_icmp .eq 15, 3) := by decide +kernel
theorem dX5_isComparing_6 : decode cX5_isComparing 6 = .ok (.iload_n 0, 1) := by decide +kernel
theorem dX5_isComparing_7 : decode cX5_isComparing 7 = .ok (.bipush 60, 2) := by decide +kernel
theorem dX5_isComparing_9 : decode cX5_isComparing 9 = .ok (.if_icmp .eq 9, 3) := by decide +kernel
theorem dX5_isComparing_12 : decode cX5_isComparing 12 = .ok (.iload_n 0, 1) := by decide +kernel
theorem dX5_isComparing_13 : decode cX5_isComparing 13 = .ok (.bipush 62, 2) := by decide +kernel
theorem dX5_isComparing_15 : decode cX5_isComparing 15 = .ok (.if_icmp .ne 7, 3) := by decide +kernel
theorem dX5_isComparing_18 : decode cX5_isComparing 18 = .ok (.iconst 1, 1) := by decide +kernel
theorem dX5_isComparing_19 : decode cX5_isComparing 19 = .ok (.goto 4, 3) := by decide +kernel
theorem dX5_isComparing_22 : decode cX5_isComparing 22 = .ok (.iconst 0, 1) := by decide +kernel
theorem dX5_isComparing_23 : decode cX5_isComparing 23 = .ok (.ireturn, 1) := by decide +kernel
theorem dX5_readCondition_0 : decode cX5_readCondition 0 = .ok (.aload_n 0, 1) := by decide +kernel
theorem dX5_readCondition_1 : decode cX5_readCondition 1 = .ok (.iload_n 1, 1) := by decide +kernel
theorem dX5_readCondition_2 : decode cX5_readCondition 2 = .ok (.iload_n 2, 1) := by decide +kernel
theorem dX5_readCondition_3 : decode cX5_readCondition 3 = .ok (.invokevirtual 72, 3) := by decide +kernel
theorem dX5_readCondition_6 : decode cX5_readCondition 6 = .ok (.ifCond .ne 5, 3) := by decide +kernel
theorem dX5_readCondition_9 : decode cX5_readCondition 9 = .ok (.iconst 0, 1) := by decide +kernel
theorem dX5_readCondition_10 : decode cX5_readCondition 10 = .ok (.ireturn, 1) := by decide +kernel
theorem dX5_readCondition_11 : decode cX5_readCondition 11 = .ok (.iconst 0, 1) := by decide +kernel
theorem dX5_readCondition_12 : decode cX5_readCondition 12 = .ok (.istore_n 3, 1) := by decide +kernel
theorem dX5_readCondition_13 : decode cX5_readCondition 13 = .ok (.iload_n 3, 1) := by decide +kernel
theorem dX5_readCondition_14 : decode cX5_readCondition 14 = .ok (.sipush 240, 3) := by decide +kernel
theorem dX5_readCondition_17 : decode cX5_readCondition 17 = .ok (.if_icmp .ge 38, 3) := by decide +kernel
theorem dX5_readCondition_20 : decode cX5_readCondition 20 = .ok (.aload_n 0, 1) := by decide +kernel
theorem dX5_readCondition_21 : decode cX5_readCondition 21 = .ok (.getfield 30, 3) := by decide +kernel
theorem dX5_readCondition_24 : decode cX5_readCondition 24 = .ok (.bipush 124, 2) := by decide +kernel
theorem dX5_readCondition_26 : decode cX5_readCondition 26 = .ok (.invokevirtual 50, 3) := by decide +kernel
theorem dX5_readCondition_29 : decode cX5_readCondition 29 = .ok (.ifCond .eq 26, 3) := by decide +kernel
theorem dX5_readCondition_32 : decode cX5_readCondition 32 = .ok (.aload_n 0, 1) := by decide +kernel
theorem dX5_readCondition_33 : decode cX5_readCondition 33 = .ok (.iload_n 1, 1) := by decide +kernel
theorem dX5_readCondition_34 : decode cX5_readCondition 34 = .ok (.iconst 0, 1) := by decide +kernel
theorem dX5_readCondition_35 : decode cX5_readCondition 35 = .ok (.invokevirtual 72, 3) := by decide +kernel
theorem dX5_readCondition_38 : decode cX5_readCondition 38 = .ok (.ifCond .ne 5, 3) := by decide +kernel
theorem dX5_readCondition_41 : decode cX5_readCondition 41 = .ok (.iconst 0, 1) := by decide +kernel
theorem dX5_readCondition_42 : decode cX5_readCondition 42 = .ok (.ireturn, 1) := by decide +kernel
theorem dX5_readCondition_43 : decode cX5_readCondition 43 = .ok (.aload_n 0, 1) := by decide +kernel
theorem dX5_readCondition_44 : decode cX5_readCondition 44 = .ok (.bipush (-124), 2) := by decide +kernel
theorem dX5_readCondition_46 : decode cX5_readCondition 46 = .ok (.invokevirtual 68, 3) := by decide +kernel
theorem dX5_readCondition_49 : decode cX5_readCondition 49 = .ok (.iinc 3 1, 3) := by decide +kernel
theorem dX5_readCondition_52 : decode cX5_readCondition 52 = .ok (.goto (-39), 3) := by decide +kernel
theorem dX5_readCondition_55 : decode cX5_readCondition 55 = .ok (.iconst 1, 1) := by decide +kernel
theorem dX5_readCondition_56 : decode cX5_readCondition 56 = .ok (.ireturn, 1) := by decide +kernel
theorem dX5_readTruth_0 : decode cX5_readTruth 0 = .ok (.aload_n 0, 1) := by decide +kernel
theorem dX5_readTruth_1 : decode cX5_readTruth 1 = .ok (.iload_n 1, 1) := by decide +kernel
theorem dX5_readTruth_2 : decode cX5_readTruth 2 = .ok (.iload_n 2, 1) := by decide +kernel
theorem dX5_readTruth_3 : decode cX5_readTruth 3 = .ok (.invokevirtual 75, 3) := by decide +kernel
theorem dX5_readTruth_6 : decode cX5_readTruth 6 = .ok (.ifCond .ne 5, 3) := by decide +kernel
theorem dX5_readTruth_9 : decode cX5_readTruth 9 = .ok (.iconst 0, 1) := by decide +kernel
theorem dX5_readTruth_10 : decode cX5_readTruth 10 = .ok (.ireturn, 1) := by decide +kernel
theorem dX5_readTruth_11 : decode cX5_readTruth 11 = .ok (.iconst 0, 1) := by decide +kernel
theorem dX5_readTruth_12 : decode cX5_readTruth 12 = .ok (.istore_n 3, 1) := by decide +kernel
theorem dX5_readTruth_13 : decode cX5_readTruth 13 = .ok (.iload_n 3, 1) := by decide +kernel
theorem dX5_readTruth_14 : decode cX5_readTruth 14 = .ok (.sipush 240, 3) := by decide +kernel
theorem dX5_readTruth_17 : decode cX5_readTruth 17 = .ok (.if_icmp .ge 38, 3) := by decide +kernel
theorem dX5_readTruth_20 : decode cX5_readTruth 20 = .ok (.aload_n 0, 1) := by decide +kernel
theorem dX5_readTruth_21 : decode cX5_readTruth 21 = .ok (.getfield 30, 3) := by decide +kernel
theorem dX5_readTruth_24 : decode cX5_readTruth 24 = .ok (.bipush 38, 2) := by decide +kernel
theorem dX5_readTruth_26 : decode cX5_readTruth 26 = .ok (.invokevirtual 50, 3) := by decide +kernel
theorem dX5_readTruth_29 : decode cX5_readTruth 29 = .ok (.ifCond .eq 26, 3) := by decide +kernel
theorem dX5_readTruth_32 : decode cX5_readTruth 32 = .ok (.aload_n 0, 1) := by decide +kernel
theorem dX5_readTruth_33 : decode cX5_readTruth 33 = .ok (.iload_n 1, 1) := by decide +kernel
theorem dX5_readTruth_34 : decode cX5_readTruth 34 = .ok (.iconst 0, 1) := by decide +kernel
theorem dX5_readTruth_35 : decode cX5_readTruth 35 = .ok (.invokevirtual 75, 3) := by decide +kernel
theorem dX5_readTruth_38 : decode cX5_readTruth 38 = .ok (.ifCond .ne 5, 3) := by decide +kernel
theorem dX5_readTruth_41 : decode cX5_readTruth 41 = .ok (.iconst 0, 1) := by decide +kernel
theorem dX5_readTruth_42 : decode cX5_readTruth 42 = .ok (.ireturn, 1) := by decide +kernel
theorem dX5_readTruth_43 : decode cX5_readTruth 43 = .ok (.aload_n 0, 1) := by decide +kernel
theorem dX5_readTruth_44 : decode cX5_readTruth 44 = .ok (.bipush (-38), 2) := by decide +kernel
theorem dX5_readTruth_46 : decode cX5_readTruth 46 = .ok (.invokevirtual 68, 3) := by decide +kernel
theorem dX5_readTruth_49 : decode cX5_readTruth 49 = .ok (.iinc 3 1, 3) := by decide +kernel
theorem dX5_readTruth_52 : decode cX5_readTruth 52 = .ok (.goto (-39), 3) := by decide +kernel
theorem dX5_readTruth_55 : decode cX5_readTruth 55 = .ok (.iconst 1, 1) := by decide +kernel
theorem dX5_readTruth_56 : decode cX5_readTruth 56 = .ok (.ireturn, 1) := by decide +kernel
theorem dX5_readUnit_0 : decode cX5_readUnit 0 = .ok (.iload_n 2, 1) := by decide +kernel
theorem dX5_readUnit_1 : decode cX5_readUnit 1 = .ok (.ifCond .ne 22, 3) := by decide +kernel
theorem dX5_readUnit_4 : decode cX5_readUnit 4 = .ok (.aload_n 0, 1) := by decide +kernel
theorem dX5_readUnit_5 : decode cX5_readUnit 5 = .ok (.getfield 30, 3) := by decide +kernel
theorem dX5_readUnit_8 : decode cX5_readUnit 8 = .ok (.invokevirtual 46, 3) := by decide +kernel
theorem dX5_readUnit_11 : decode cX5_readUnit 11 = .ok (.invokestatic 54, 3) := by decide +kernel
theorem dX5_readUnit_14 : decode cX5_readUnit 14 = .ok (.ifCond .eq 9, 3) := by decide +kernel
theorem dX5_readUnit_17 : decode cX5_readUnit 17 = .ok (.aload_n 0, 1) := by decide +kernel
theorem dX5_readUnit_18 : decode cX5_readUnit 18 = .ok (.iload_n 1, 1) := by decide +kernel
theorem dX5_readUnit_19 : decode cX5_readUnit 19 = .ok (.invokevirtual 78, 3) := by decide +kernel
theorem dX5_readUnit_22 : decode cX5_readUnit 22 = .ok (.ireturn, 1) := by decide +kernel
theorem dX5_readUnit_23 : decode cX5_readUnit 23 = .ok (.iload_n 2, 1) := by decide +kernel
theorem dX5_readUnit_24 : decode cX5_readUnit 24 = .ok (.ifCond .ne 13, 3) := by decide +kernel
theorem dX5_readUnit_27 : decode cX5_readUnit 27 = .ok (.aload_n 0, 1) := by decide +kernel
theorem dX5_readUnit_28 : decode cX5_readUnit 28 = .ok (.iload_n 1, 1) := by decide +kernel
theorem dX5_readUnit_29 : decode cX5_readUnit 29 = .ok (.invokevirtual 58, 3) := by decide +kernel
theorem dX5_readUnit_32 : decode cX5_readUnit 32 = .ok (.ifCond .ne 5, 3) := by decide +kernel
theorem dX5_readUnit_35 : decode cX5_readUnit 35 = .ok (.iconst 0, 1) := by decide +kernel
theorem dX5_readUnit_36 : decode cX5_readUnit 36 = .ok (.ireturn, 1) := by decide +kernel
theorem dX5_readUnit_37 : decode cX5_readUnit 37 = .ok (.aload_n 0, 1) := by decide +kernel
theorem dX5_readUnit_38 : decode cX5_readUnit 38 = .ok (.getfield 30, 3) := by decide +kernel
theorem dX5_readUnit_41 : decode cX5_readUnit 41 = .ok (.invokevirtual 46, 3) := by decide +kernel
theorem dX5_readUnit_44 : decode cX5_readUnit 44 = .ok (.istore_n 3, 1) := by decide +kernel
theorem dX5_readUnit_45 : decode cX5_readUnit 45 = .ok (.iload_n 3, 1) := by decide +kernel
theorem dX5_readUnit_46 : decode cX5_readUnit 46 = .ok (.invokestatic 61, 3) := by decide +kernel
theorem dX5_readUnit_49 : decode cX5_readUnit 49 = .ok (.ifCond .ne 5, 3) := by decide +kernel
theorem dX5_readUnit_52 : decode cX5_readUnit 52 = .ok (.iconst 0, 1) := by decide +kernel
theorem dX5_readUnit_53 : decode cX5_readUnit 53 = .ok (.ireturn, 1) := by decide +kernel
theorem dX5_readUnit_54 : decode cX5_readUnit 54 = .ok (.aload_n 0, 1) := by decide +kernel
theorem dX5_readUnit_55 : decode cX5_readUnit 55 = .ok (.getfield 30, 3) := by decide +kernel
theorem dX5_readUnit_58 : decode cX5_readUnit 58 = .ok (.dup, 1) := by decide +kernel
theorem dX5_readUnit_59 : decode cX5_readUnit 59 = .ok (.getfield 37, 3) := by decide +kernel
theorem dX5_readUnit_62 : decode cX5_readUnit 62 = .ok (.iconst 1, 1) := by decide +kernel
theorem dX5_readUnit_63 : decode cX5_readUnit 63 = .ok (.iadd, 1) := by decide +kernel
theorem dX5_readUnit_64 : decode cX5_readUnit 64 = .ok (.putfield 37, 3) := by decide +kernel
theorem dX5_readUnit_67 : decode cX5_readUnit 67 = .ok (.aload_n 0, 1) := by decide +kernel
theorem dX5_readUnit_68 : decode cX5_readUnit 68 = .ok (.iload_n 1, 1) := by decide +kernel
theorem dX5_readUnit_69 : decode cX5_readUnit 69 = .ok (.invokevirtual 58, 3) := by decide +kernel
theorem dX5_readUnit_72 : decode cX5_readUnit 72 = .ok (.ifCond .ne 5, 3) := by decide +kernel
theorem dX5_readUnit_75 : decode cX5_readUnit 75 = .ok (.iconst 0, 1) := by decide +kernel
theorem dX5_readUnit_76 : decode cX5_readUnit 76 = .ok (.ireturn, 1) := by decide +kernel
theorem dX5_readUnit_77 : decode cX5_readUnit 77 = .ok (.aload_n 0, 1) := by decide +kernel
theorem dX5_readUnit_78 : decode cX5_readUnit 78 = .ok (.iload_n 3, 1) := by decide +kernel
theorem dX5_readUnit_79 : decode cX5_readUnit 79 = .ok (.ineg, 1) := by decide +kernel
theorem dX5_readUnit_80 : decode cX5_readUnit 80 = .ok (.invokevirtual 68, 3) := by decide +kernel
theorem dX5_readUnit_83 : decode cX5_readUnit 83 = .ok (.iconst 1, 1) := by decide +kernel
theorem dX5_readUnit_84 : decode cX5_readUnit 84 = .ok (.ireturn, 1) := by decide +kernel
theorem dX5_readNested_0 : decode cX5_readNested 0 = .ok (.iload_n 1, 1) := by decide +kernel
theorem dX5_readNested_1 : decode cX5_readNested 1 = .ok (.bipush 6, 2) := by decide +kernel
theorem dX5_readNested_3 : decode cX5_readNested 3 = .ok (.if_icmp .lt 5, 3) := by decide +kernel
theorem dX5_readNested_6 : decode cX5_readNested 6 = .ok (.iconst 0, 1) := by decide +kernel
theorem dX5_readNested_7 : decode cX5_readNested 7 = .ok (.ireturn, 1) := by decide +kernel
theorem dX5_readNested_8 : decode cX5_readNested 8 = .ok (.aload_n 0, 1) := by decide +kernel
theorem dX5_readNested_9 : decode cX5_readNested 9 = .ok (.getfield 30, 3) := by decide +kernel
theorem dX5_readNested_12 : decode cX5_readNested 12 = .ok (.bipush 40, 2) := by decide +kernel
theorem dX5_readNested_14 : decode cX5_readNested 14 = .ok (.invokevirtual 50, 3) := by decide +kernel
theorem dX5_readNested_17 : decode cX5_readNested 17 = .ok (.ifCond .eq 32, 3) := by decide +kernel
theorem dX5_readNested_20 : decode cX5_readNested 20 = .ok (.aload_n 0, 1) := by decide +kernel
theorem dX5_readNested_21 : decode cX5_readNested 21 = .ok (.iload_n 1, 1) := by decide +kernel
theorem dX5_readNested_22 : decode cX5_readNested 22 = .ok (.iconst 1, 1) := by decide +kernel
theorem dX5_readNested_23 : decode cX5_readNested 23 = .ok (.iadd, 1) := by decide +kernel
theorem dX5_readNested_24 : decode cX5_readNested 24 = .ok (.iconst 0, 1) := by decide +kernel
theorem dX5_readNested_25 : decode cX5_readNested 25 = .ok (.invokevirtual 64, 3) := by decide +kernel
theorem dX5_readNested_28 : decode cX5_readNested 28 = .ok (.ifCond .eq 19, 3) := by decide +kernel
theorem dX5_readNested_31 : decode cX5_readNested 31 = .ok (.aload_n 0, 1) := by decide +kernel
theorem dX5_readNested_32 : decode cX5_readNested 32 = .ok (.getfield 30, 3) := by decide +kernel
theorem dX5_readNested_35 : decode cX5_readNested 35 = .ok (.bipush 41, 2) := by decide +kernel
theorem dX5_readNested_37 : decode cX5_readNested 37 = .ok (.invokevirtual 50, 3) := by decide +kernel
theorem dX5_readNested_40 : decode cX5_readNested 40 = .ok (.ifCond .eq 7, 3) := by decide +kernel
theorem dX5_readNested_43 : decode cX5_readNested 43 = .ok (.iconst 1, 1) := by decide +kernel
theorem dX5_readNested_44 : decode cX5_readNested 44 = .ok (.goto 4, 3) := by decide +kernel
theorem dX5_readNested_47 : decode cX5_readNested 47 = .ok (.iconst 0, 1) := by decide +kernel
theorem dX5_readNested_48 : decode cX5_readNested 48 = .ok (.ireturn, 1) := by decide +kernel
theorem dX5_readNested_49 : decode cX5_readNested 49 = .ok (.aload_n 0, 1) := by decide +kernel
theorem dX5_readNested_50 : decode cX5_readNested 50 = .ok (.getfield 30, 3) := by decide +kernel
theorem dX5_readNested_53 : decode cX5_readNested 53 = .ok (.bipush 33, 2) := by decide +kernel
theorem dX5_readNested_55 : decode cX5_readNested 55 = .ok (.invokevirtual 50, 3) := by decide +kernel
theorem dX5_readNested_58 : decode cX5_readNested 58 = .ok (.ifCond .eq 14, 3) := by decide +kernel
theorem dX5_readNested_61 : decode cX5_readNested 61 = .ok (.aload_n 0, 1) := by decide +kernel
theorem dX5_readNested_62 : decode cX5_readNested 62 = .ok (.iload_n 1, 1) := by decide +kernel
theorem dX5_readNested_63 : decode cX5_readNested 63 = .ok (.iconst 1, 1) := by decide +kernel
theorem dX5_readNested_64 : decode cX5_readNested 64 = .ok (.iadd, 1) := by decide +kernel
theorem dX5_readNested_65 : decode cX5_readNested 65 = .ok (.iconst 0, 1) := by decide +kernel
theorem dX5_readNested_66 : decode cX5_readNested 66 = .ok (.invokevirtual 75, 3) := by decide +kernel
theorem dX5_readNested_69 : decode cX5_readNested 69 = .ok (.ifCond .ne 5, 3) := by decide +kernel
theorem dX5_readNested_72 : decode cX5_readNested 72 = .ok (.iconst 0, 1) := by decide +kernel
theorem dX5_readNested_73 : decode cX5_readNested 73 = .ok (.ireturn, 1) := by decide +kernel
theorem dX5_readNested_74 : decode cX5_readNested 74 = .ok (.aload_n 0, 1) := by decide +kernel
theorem dX5_readNested_75 : decode cX5_readNested 75 = .ok (.bipush (-33), 2) := by decide +kernel
theorem dX5_readNested_77 : decode cX5_readNested 77 = .ok (.invokevirtual 68, 3) := by decide +kernel
theorem dX5_readNested_80 : decode cX5_readNested 80 = .ok (.iconst 1, 1) := by decide +kernel
theorem dX5_readNested_81 : decode cX5_readNested 81 = .ok (.ireturn, 1) := by decide +kernel
theorem dX5_readSum_0 : decode cX5_readSum 0 = .ok (.aload_n 0, 1) := by decide +kernel
theorem dX5_readSum_1 : decode cX5_readSum 1 = .ok (.iload_n 1, 1) := by decide +kernel
theorem dX5_readSum_2 : decode cX5_readSum 2 = .ok (.invokevirtual 81, 3) := by decide +kernel
theorem dX5_readSum_5 : decode cX5_readSum 5 = .ok (.ifCond .ne 5, 3) := by decide +kernel
theorem dX5_readSum_8 : decode cX5_readSum 8 = .ok (.iconst 0, 1) := by decide +kernel
theorem dX5_readSum_9 : decode cX5_readSum 9 = .ok (.ireturn, 1) := by decide +kernel
theorem dX5_readSum_10 : decode cX5_readSum 10 = .ok (.iconst 0, 1) := by decide +kernel
theorem dX5_readSum_11 : decode cX5_readSum 11 = .ok (.istore_n 2, 1) := by decide +kernel
theorem dX5_readSum_12 : decode cX5_readSum 12 = .ok (.iload_n 2, 1) := by decide +kernel
theorem dX5_readSum_13 : decode cX5_readSum 13 = .ok (.sipush 240, 3) := by decide +kernel
theorem dX5_readSum_16 : decode cX5_readSum 16 = .ok (.if_icmp .ge 60, 3) := by decide +kernel
theorem dX5_readSum_19 : decode cX5_readSum 19 = .ok (.aload_n 0, 1) := by decide +kernel
theorem dX5_readSum_20 : decode cX5_readSum 20 = .ok (.getfield 30, 3) := by decide +kernel
theorem dX5_readSum_23 : decode cX5_readSum 23 = .ok (.invokevirtual 46, 3) := by decide +kernel
theorem dX5_readSum_26 : decode cX5_readSum 26 = .ok (.istore_n 3, 1) := by decide +kernel
theorem dX5_readSum_27 : decode cX5_readSum 27 = .ok (.iload_n 3, 1) := by decide +kernel
theorem dX5_readSum_28 : decode cX5_readSum 28 = .ok (.bipush 43, 2) := by decide +kernel
theorem dX5_readSum_30 : decode cX5_readSum 30 = .ok (.if_icmp .eq 11, 3) := by decide +kernel
theorem dX5_readSum_33 : decode cX5_readSum 33 = .ok (.iload_n 3, 1) := by decide +kernel
theorem dX5_readSum_34 : decode cX5_readSum 34 = .ok (.bipush 45, 2) := by decide +kernel
theorem dX5_readSum_36 : decode cX5_readSum 36 = .ok (.if_icmp .eq 5, 3) := by decide +kernel
theorem dX5_readSum_39 : decode cX5_readSum 39 = .ok (.iconst 1, 1) := by decide +kernel
theorem dX5_readSum_40 : decode cX5_readSum 40 = .ok (.ireturn, 1) := by decide +kernel
theorem dX5_readSum_41 : decode cX5_readSum 41 = .ok (.aload_n 0, 1) := by decide +kernel
theorem dX5_readSum_42 : decode cX5_readSum 42 = .ok (.getfield 30, 3) := by decide +kernel
theorem dX5_readSum_45 : decode cX5_readSum 45 = .ok (.dup, 1) := by decide +kernel
theorem dX5_readSum_46 : decode cX5_readSum 46 = .ok (.getfield 37, 3) := by decide +kernel
theorem dX5_readSum_49 : decode cX5_readSum 49 = .ok (.iconst 1, 1) := by decide +kernel
theorem dX5_readSum_50 : decode cX5_readSum 50 = .ok (.iadd, 1) := by decide +kernel
theorem dX5_readSum_51 : decode cX5_readSum 51 = .ok (.putfield 37, 3) := by decide +kernel
theorem dX5_readSum_54 : decode cX5_readSum 54 = .ok (.aload_n 0, 1) := by decide +kernel
theorem dX5_readSum_55 : decode cX5_readSum 55 = .ok (.iload_n 1, 1) := by decide +kernel
theorem dX5_readSum_56 : decode cX5_readSum 56 = .ok (.invokevirtual 81, 3) := by decide +kernel
theorem dX5_readSum_59 : decode cX5_readSum 59 = .ok (.ifCond .ne 5, 3) := by decide +kernel
theorem dX5_readSum_62 : decode cX5_readSum 62 = .ok (.iconst 0, 1) := by decide +kernel
theorem dX5_readSum_63 : decode cX5_readSum 63 = .ok (.ireturn, 1) := by decide +kernel
theorem dX5_readSum_64 : decode cX5_readSum 64 = .ok (.aload_n 0, 1) := by decide +kernel
theorem dX5_readSum_65 : decode cX5_readSum 65 = .ok (.iload_n 3, 1) := by decide +kernel
theorem dX5_readSum_66 : decode cX5_readSum 66 = .ok (.ineg, 1) := by decide +kernel
theorem dX5_readSum_67 : decode cX5_readSum 67 = .ok (.invokevirtual 68, 3) := by decide +kernel
theorem dX5_readSum_70 : decode cX5_readSum 70 = .ok (.iinc 2 1, 3) := by decide +kernel
theorem dX5_readSum_73 : decode cX5_readSum 73 = .ok (.goto (-61), 3) := by decide +kernel
theorem dX5_readSum_76 : decode cX5_readSum 76 = .ok (.iconst 1, 1) := by decide +kernel
theorem dX5_readSum_77 : decode cX5_readSum 77 = .ok (.ireturn, 1) := by decide +kernel
theorem dX5_readTerm_0 : decode cX5_readTerm 0 = .ok (.aload_n 0, 1) := by decide +kernel
theorem dX5_readTerm_1 : decode cX5_readTerm 1 = .ok (.iload_n 1, 1) := by decide +kernel
theorem dX5_readTerm_2 : decode cX5_readTerm 2 = .ok (.invokevirtual 84, 3) := by decide +kernel
theorem dX5_readTerm_5 : decode cX5_readTerm 5 = .ok (.ifCond .ne 5, 3) := by decide +kernel
theorem dX5_readTerm_8 : decode cX5_readTerm 8 = .ok (.iconst 0, 1) := by decide +kernel
theorem dX5_readTerm_9 : decode cX5_readTerm 9 = .ok (.ireturn, 1) := by decide +kernel
theorem dX5_readTerm_10 : decode cX5_readTerm 10 = .ok (.iconst 0, 1) := by decide +kernel
theorem dX5_readTerm_11 : decode cX5_readTerm 11 = .ok (.istore_n 2, 1) := by decide +kernel
theorem dX5_readTerm_12 : decode cX5_readTerm 12 = .ok (.iload_n 2, 1) := by decide +kernel
theorem dX5_readTerm_13 : decode cX5_readTerm 13 = .ok (.sipush 240, 3) := by decide +kernel
theorem dX5_readTerm_16 : decode cX5_readTerm 16 = .ok (.if_icmp .ge 60, 3) := by decide +kernel
theorem dX5_readTerm_19 : decode cX5_readTerm 19 = .ok (.aload_n 0, 1) := by decide +kernel
theorem dX5_readTerm_20 : decode cX5_readTerm 20 = .ok (.getfield 30, 3) := by decide +kernel
theorem dX5_readTerm_23 : decode cX5_readTerm 23 = .ok (.invokevirtual 46, 3) := by decide +kernel
theorem dX5_readTerm_26 : decode cX5_readTerm 26 = .ok (.istore_n 3, 1) := by decide +kernel
theorem dX5_readTerm_27 : decode cX5_readTerm 27 = .ok (.iload_n 3, 1) := by decide +kernel
theorem dX5_readTerm_28 : decode cX5_readTerm 28 = .ok (.bipush 42, 2) := by decide +kernel
theorem dX5_readTerm_30 : decode cX5_readTerm 30 = .ok (.if_icmp .eq 11, 3) := by decide +kernel
theorem dX5_readTerm_33 : decode cX5_readTerm 33 = .ok (.iload_n 3, 1) := by decide +kernel
theorem dX5_readTerm_34 : decode cX5_readTerm 34 = .ok (.bipush 47, 2) := by decide +kernel
theorem dX5_readTerm_36 : decode cX5_readTerm 36 = .ok (.if_icmp .eq 5, 3) := by decide +kernel
theorem dX5_readTerm_39 : decode cX5_readTerm 39 = .ok (.iconst 1, 1) := by decide +kernel
theorem dX5_readTerm_40 : decode cX5_readTerm 40 = .ok (.ireturn, 1) := by decide +kernel
theorem dX5_readTerm_41 : decode cX5_readTerm 41 = .ok (.aload_n 0, 1) := by decide +kernel
theorem dX5_readTerm_42 : decode cX5_readTerm 42 = .ok (.getfield 30, 3) := by decide +kernel
theorem dX5_readTerm_45 : decode cX5_readTerm 45 = .ok (.dup, 1) := by decide +kernel
theorem dX5_readTerm_46 : decode cX5_readTerm 46 = .ok (.getfield 37, 3) := by decide +kernel
theorem dX5_readTerm_49 : decode cX5_readTerm 49 = .ok (.iconst 1, 1) := by decide +kernel
theorem dX5_readTerm_50 : decode cX5_readTerm 50 = .ok (.iadd, 1) := by decide +kernel
theorem dX5_readTerm_51 : decode cX5_readTerm 51 = .ok (.putfield 37, 3) := by decide +kernel
theorem dX5_readTerm_54 : decode cX5_readTerm 54 = .ok (.aload_n 0, 1) := by decide +kernel
theorem dX5_readTerm_55 : decode cX5_readTerm 55 = .ok (.iload_n 1, 1) := by decide +kernel
theorem dX5_readTerm_56 : decode cX5_readTerm 56 = .ok (.invokevirtual 84, 3) := by decide +kernel
theorem dX5_readTerm_59 : decode cX5_readTerm 59 = .ok (.ifCond .ne 5, 3) := by decide +kernel
theorem dX5_readTerm_62 : decode cX5_readTerm 62 = .ok (.iconst 0, 1) := by decide +kernel
theorem dX5_readTerm_63 : decode cX5_readTerm 63 = .ok (.ireturn, 1) := by decide +kernel
theorem dX5_readTerm_64 : decode cX5_readTerm 64 = .ok (.aload_n 0, 1) := by decide +kernel
theorem dX5_readTerm_65 : decode cX5_readTerm 65 = .ok (.iload_n 3, 1) := by decide +kernel
theorem dX5_readTerm_66 : decode cX5_readTerm 66 = .ok (.ineg, 1) := by decide +kernel
theorem dX5_readTerm_67 : decode cX5_readTerm 67 = .ok (.invokevirtual 68, 3) := by decide +kernel
theorem dX5_readTerm_70 : decode cX5_readTerm 70 = .ok (.iinc 2 1, 3) := by decide +kernel
theorem dX5_readTerm_73 : decode cX5_readTerm 73 = .ok (.goto (-61), 3) := by decide +kernel
theorem dX5_readTerm_76 : decode cX5_readTerm 76 = .ok (.iconst 1, 1) := by decide +kernel
theorem dX5_readTerm_77 : decode cX5_readTerm 77 = .ok (.ireturn, 1) := by decide +kernel
theorem dX5_readAtom_0 : decode cX5_readAtom 0 = .ok (.aload_n 0, 1) := by decide +kernel
theorem dX5_readAtom_1 : decode cX5_readAtom 1 = .ok (.getfield 30, 3) := by decide +kernel
theorem dX5_readAtom_4 : decode cX5_readAtom 4 = .ok (.invokevirtual 46, 3) := by decide +kernel
theorem dX5_readAtom_7 : decode cX5_readAtom 7 = .ok (.istore_n 2, 1) := by decide +kernel
theorem dX5_readAtom_8 : decode cX5_readAtom 8 = .ok (.iload_n 2, 1) := by decide +kernel
theorem dX5_readAtom_9 : decode cX5_readAtom 9 = .ok (.bipush 91, 2) := by decide +kernel
theorem dX5_readAtom_11 : decode cX5_readAtom 11 = .ok (.if_icmp .ne 49, 3) := by decide +kernel
theorem dX5_readAtom_14 : decode cX5_readAtom 14 = .ok (.iload_n 1, 1) := by decide +kernel
theorem dX5_readAtom_15 : decode cX5_readAtom 15 = .ok (.bipush 6, 2) := by decide +kernel
theorem dX5_readAtom_17 : decode cX5_readAtom 17 = .ok (.if_icmp .ge 41, 3) := by decide +kernel
theorem dX5_readAtom_20 : decode cX5_readAtom 20 = .ok (.aload_n 0, 1) := by decide +kernel
theorem dX5_readAtom_21 : decode cX5_readAtom 21 = .ok (.getfield 30, 3) := by decide +kernel
theorem dX5_readAtom_24 : decode cX5_readAtom 24 = .ok (.bipush 91, 2) := by decide +kernel
theorem dX5_readAtom_26 : decode cX5_readAtom 26 = .ok (.invokevirtual 50, 3) := by decide +kernel
theorem dX5_readAtom_29 : decode cX5_readAtom 29 = .ok (.ifCond .eq 29, 3) := by decide +kernel
theorem dX5_readAtom_32 : decode cX5_readAtom 32 = .ok (.aload_n 0, 1) := by decide +kernel
theorem dX5_readAtom_33 : decode cX5_readAtom 33 = .ok (.iload_n 1, 1) := by decide +kernel
theorem dX5_readAtom_34 : decode cX5_readAtom 34 = .ok (.iconst 1, 1) := by decide +kernel
theorem dX5_readAtom_35 : decode cX5_readAtom 35 = .ok (.iadd, 1) := by decide +kernel
theorem dX5_readAtom_36 : decode cX5_readAtom 36 = .ok (.invokevirtual 58, 3) := by decide +kernel
theorem dX5_readAtom_39 : decode cX5_readAtom 39 = .ok (.ifCond .eq 19, 3) := by decide +kernel
theorem dX5_readAtom_42 : decode cX5_readAtom 42 = .ok (.aload_n 0, 1) := by decide +kernel
theorem dX5_readAtom_43 : decode cX5_readAtom 43 = .ok (.getfield 30, 3) := by decide +kernel
theorem dX5_readAtom_46 : decode cX5_readAtom 46 = .ok (.bipush 93, 2) := by decide +kernel
theorem dX5_readAtom_48 : decode cX5_readAtom 48 = .ok (.invokevirtual 50, 3) := by decide +kernel
theorem dX5_readAtom_51 : decode cX5_readAtom 51 = .ok (.ifCond .eq 7, 3) := by decide +kernel
theorem dX5_readAtom_54 : decode cX5_readAtom 54 = .ok (.iconst 1, 1) := by decide +kernel
theorem dX5_readAtom_55 : decode cX5_readAtom 55 = .ok (.goto 4, 3) := by decide +kernel
theorem dX5_readAtom_58 : decode cX5_readAtom 58 = .ok (.iconst 0, 1) := by decide +kernel
theorem dX5_readAtom_59 : decode cX5_readAtom 59 = .ok (.ireturn, 1) := by decide +kernel
theorem dX5_readAtom_60 : decode cX5_readAtom 60 = .ok (.ldc 87, 2) := by decide +kernel
theorem dX5_readAtom_62 : decode cX5_readAtom 62 = .ok (.iload_n 2, 1) := by decide +kernel
theorem dX5_readAtom_63 : decode cX5_readAtom 63 = .ok (.invokestatic 89, 3) := by decide +kernel
theorem dX5_readAtom_66 : decode cX5_readAtom 66 = .ok (.istore_n 3, 1) := by decide +kernel
theorem dX5_readAtom_67 : decode cX5_readAtom 67 = .ok (.iload_n 3, 1) := by decide +kernel
theorem dX5_readAtom_68 : decode cX5_readAtom 68 = .ok (.iconst (-1), 1) := by decide +kernel
theorem dX5_readAtom_69 : decode cX5_readAtom 69 = .ok (.if_icmp .eq 25, 3) := by decide +kernel
theorem dX5_readAtom_72 : decode cX5_readAtom 72 = .ok (.aload_n 0, 1) := by decide +kernel
theorem dX5_readAtom_73 : decode cX5_readAtom 73 = .ok (.getfield 30, 3) := by decide +kernel
theorem dX5_readAtom_76 : decode cX5_readAtom 76 = .ok (.dup, 1) := by decide +kernel
theorem dX5_readAtom_77 : decode cX5_readAtom 77 = .ok (.getfield 37, 3) := by decide +kernel
theorem dX5_readAtom_80 : decode cX5_readAtom 80 = .ok (.iconst 1, 1) := by decide +kernel
theorem dX5_readAtom_81 : decode cX5_readAtom 81 = .ok (.iadd, 1) := by decide +kernel
theorem dX5_readAtom_82 : decode cX5_readAtom 82 = .ok (.putfield 37, 3) := by decide +kernel
theorem dX5_readAtom_85 : decode cX5_readAtom 85 = .ok (.aload_n 0, 1) := by decide +kernel
theorem dX5_readAtom_86 : decode cX5_readAtom 86 = .ok (.iconst (-1), 1) := by decide +kernel
theorem dX5_readAtom_87 : decode cX5_readAtom 87 = .ok (.iload_n 3, 1) := by decide +kernel
theorem dX5_readAtom_88 : decode cX5_readAtom 88 = .ok (.isub, 1) := by decide +kernel
theorem dX5_readAtom_89 : decode cX5_readAtom 89 = .ok (.invokevirtual 68, 3) := by decide +kernel
theorem dX5_readAtom_92 : decode cX5_readAtom 92 = .ok (.iconst 1, 1) := by decide +kernel
theorem dX5_readAtom_93 : decode cX5_readAtom 93 = .ok (.ireturn, 1) := by decide +kernel
theorem dX5_readAtom_94 : decode cX5_readAtom 94 = .ok (.aload_n 0, 1) := by decide +kernel
theorem dX5_readAtom_95 : decode cX5_readAtom 95 = .ok (.getfield 30, 3) := by decide +kernel
theorem dX5_readAtom_98 : decode cX5_readAtom 98 = .ok (.iconst 4, 1) := by decide +kernel
theorem dX5_readAtom_99 : decode cX5_readAtom 99 = .ok (.iconst 0, 1) := by decide +kernel
theorem dX5_readAtom_100 : decode cX5_readAtom 100 = .ok (.sipush 9999, 3) := by decide +kernel
theorem dX5_readAtom_103 : decode cX5_readAtom 103 = .ok (.invokevirtual 93, 3) := by decide +kernel
theorem dX5_readAtom_106 : decode cX5_readAtom 106 = .ok (.ifCond .ne 5, 3) := by decide +kernel
theorem dX5_readAtom_109 : decode cX5_readAtom 109 = .ok (.iconst 0, 1) := by decide +kernel
theorem dX5_readAtom_110 : decode cX5_readAtom 110 = .ok (.ireturn, 1) := by decide +kernel
theorem dX5_readAtom_111 : decode cX5_readAtom 111 = .ok (.aload_n 0, 1) := by decide +kernel
theorem dX5_readAtom_112 : decode cX5_readAtom 112 = .ok (.aload_n 0, 1) := by decide +kernel
theorem dX5_readAtom_113 : decode cX5_readAtom 113 = .ok (.getfield 30, 3) := by decide +kernel
theorem dX5_readAtom_116 : decode cX5_readAtom 116 = .ok (.getfield 97, 3) := by decide +kernel
theorem dX5_readAtom_119 : decode cX5_readAtom 119 = .ok (.invokevirtual 68, 3) := by decide +kernel
theorem dX5_readAtom_122 : decode cX5_readAtom 122 = .ok (.iconst 1, 1) := by decide +kernel
theorem dX5_readAtom_123 : decode cX5_readAtom 123 = .ok (.ireturn, 1) := by decide +kernel
theorem dX5_worth_0 : decode cX5_worth 0 = .ok (.aload_n 0, 1) := by decide +kernel
theorem dX5_worth_1 : decode cX5_worth 1 = .ok (.getfield 15, 3) := by decide +kernel
theorem dX5_worth_4 : decode cX5_worth 4 = .ok (.ifCond .lt 14, 3) := by decide +kernel
theorem dX5_worth_7 : decode cX5_worth 7 = .ok (.aload_n 0, 1) := by decide +kernel
theorem dX5_worth_8 : decode cX5_worth 8 = .ok (.getfield 15, 3) := by decide +kernel
theorem dX5_worth_11 : decode cX5_worth 11 = .ok (.aload_n 0, 1) := by decide +kernel
theorem dX5_worth_12 : decode cX5_worth 12 = .ok (.getfield 34, 3) := by decide +kernel
theorem dX5_worth_15 : decode cX5_worth 15 = .ok (.if_icmp .lt 5, 3) := by decide +kernel
theorem dX5_worth_18 : decode cX5_worth 18 = .ok (.iconst 0, 1) := by decide +kernel
theorem dX5_worth_19 : decode cX5_worth 19 = .ok (.ireturn, 1) := by decide +kernel
theorem dX5_worth_20 : decode cX5_worth 20 = .ok (.aload_n 0, 1) := by decide +kernel
theorem dX5_worth_21 : decode cX5_worth 21 = .ok (.getfield 21, 3) := by decide +kernel
theorem dX5_worth_24 : decode cX5_worth 24 = .ok (.aload_n 0, 1) := by decide +kernel
theorem dX5_worth_25 : decode cX5_worth 25 = .ok (.getfield 15, 3) := by decide +kernel
theorem dX5_worth_28 : decode cX5_worth 28 = .ok (.aaload, 1) := by decide +kernel
theorem dX5_worth_29 : decode cX5_worth 29 = .ok (.astore_n 1, 1) := by decide +kernel
theorem dX5_worth_30 : decode cX5_worth 30 = .ok (.iconst 0, 1) := by decide +kernel
theorem dX5_worth_31 : decode cX5_worth 31 = .ok (.istore_n 2, 1) := by decide +kernel
theorem dX5_worth_32 : decode cX5_worth 32 = .ok (.iconst 0, 1) := by decide +kernel
theorem dX5_worth_33 : decode cX5_worth 33 = .ok (.istore_n 3, 1) := by decide +kernel
theorem dX5_worth_34 : decode cX5_worth 34 = .ok (.iconst 0, 1) := by decide +kernel
theorem dX5_worth_35 : decode cX5_worth 35 = .ok (.istore 4, 2) := by decide +kernel
theorem dX5_worth_37 : decode cX5_worth 37 = .ok (.iload 4, 2) := by decide +kernel
theorem dX5_worth_39 : decode cX5_worth 39 = .ok (.aload_n 0, 1) := by decide +kernel
theorem dX5_worth_40 : decode cX5_worth 40 = .ok (.getfield 24, 3) := by decide +kernel
theorem dX5_worth_43 : decode cX5_worth 43 = .ok (.aload_n 0, 1) := by decide +kernel
theorem dX5_worth_44 : decode cX5_worth 44 = .ok (.getfield 15, 3) := by decide +kernel
theorem dX5_worth_47 : decode cX5_worth 47 = .ok (.iaload, 1) := by decide +kernel
theorem dX5_worth_48 : decode cX5_worth 48 = .ok (.if_icmp .ge 207, 3) := by decide +kernel
theorem dX5_worth_51 : decode cX5_worth 51 = .ok (.aload_n 1, 1) := by decide +kernel
theorem dX5_worth_52 : decode cX5_worth 52 = .ok (.iload 4, 2) := by decide +kernel
theorem dX5_worth_54 : decode cX5_worth 54 = .ok (.iaload, 1) := by decide +kernel
theorem dX5_worth_55 : decode cX5_worth 55 = .ok (.istore 5, 2) := by decide +kernel
theorem dX5_worth_57 : decode cX5_worth 57 = .ok (.iload_n 3, 1) := by decide +kernel
theorem dX5_worth_58 : decode cX5_worth 58 = .ok (.ifCond .eq 19, 3) := by decide +kernel
theorem dX5_worth_61 : decode cX5_worth 61 = .ok (.iload 5, 2) := by decide +kernel
theorem dX5_worth_63 : decode cX5_worth 63 = .ok (.bipush (-59), 2) := by decide +kernel
theorem dX5_worth_65 : decode cX5_worth 65 = .ok (.if_icmp .eq 7, 3) := by decide +kernel
theorem dX5_worth_68 : decode cX5_worth 68 = .ok (.iconst 1, 1) := by decide +kernel
theorem dX5_worth_69 : decode cX5_worth 69 = .ok (.goto 4, 3) := by decide +kernel
theorem dX5_worth_72 : decode cX5_worth 72 = .ok (.iconst 0, 1) := by decide +kernel
theorem dX5_worth_73 : decode cX5_worth 73 = .ok (.istore_n 3, 1) := by decide +kernel
theorem dX5_worth_74 : decode cX5_worth 74 = .ok (.goto 175, 3) := by decide +kernel
theorem dX5_worth_77 : decode cX5_worth 77 = .ok (.iload 5, 2) := by decide +kernel
theorem dX5_worth_79 : decode cX5_worth 79 = .ok (.aload_n 0, 1) := by decide +kernel
theorem dX5_worth_80 : decode cX5_worth 80 = .ok (.getfield 9, 3) := by decide +kernel
theorem dX5_worth_83 : decode cX5_worth 83 = .ok (.arraylength, 1) := by decide +kernel
theorem dX5_worth_84 : decode cX5_worth 84 = .ok (.ineg, 1) := by decide +kernel
theorem dX5_worth_85 : decode cX5_worth 85 = .ok (.if_icmp .lt 40, 3) := by decide +kernel
theorem dX5_worth_88 : decode cX5_worth 88 = .ok (.iload_n 2, 1) := by decide +kernel
theorem dX5_worth_89 : decode cX5_worth 89 = .ok (.bipush 64, 2) := by decide +kernel
theorem dX5_worth_91 : decode cX5_worth 91 = .ok (.if_icmp .ge 34, 3) := by decide +kernel
theorem dX5_worth_94 : decode cX5_worth 94 = .ok (.aload_n 0, 1) := by decide +kernel
theorem dX5_worth_95 : decode cX5_worth 95 = .ok (.getfield 27, 3) := by decide +kernel
theorem dX5_worth_98 : decode cX5_worth 98 = .ok (.iload_n 2, 1) := by decide +kernel
theorem dX5_worth_99 : decode cX5_worth 99 = .ok (.iload 5, 2) := by decide +kernel
theorem dX5_worth_101 : decode cX5_worth 101 = .ok (.ifCond .lt 8, 3) := by decide +kernel
theorem dX5_worth_104 : decode cX5_worth 104 = .ok (.iload 5, 2) := by decide +kernel
theorem dX5_worth_106 : decode cX5_worth 106 = .ok (.goto 12, 3) := by decide +kernel
theorem dX5_worth_109 : decode cX5_worth 109 = .ok (.aload_n 0, 1) := by decide +kernel
theorem dX5_worth_110 : decode cX5_worth 110 = .ok (.getfield 9, 3) := by decide +kernel
theorem dX5_worth_113 : decode cX5_worth 113 = .ok (.iconst (-1), 1) := by decide +kernel
theorem dX5_worth_114 : decode cX5_worth 114 = .ok (.iload 5, 2) := by decide +kernel
theorem dX5_worth_116 : decode cX5_worth 116 = .ok (.isub, 1) := by decide +kernel
theorem dX5_worth_117 : decode cX5_worth 117 = .ok (.iaload, 1) := by decide +kernel
theorem dX5_worth_118 : decode cX5_worth 118 = .ok (.iastore, 1) := by decide +kernel
theorem dX5_worth_119 : decode cX5_worth 119 = .ok (.iinc 2 1, 3) := by decide +kernel
theorem dX5_worth_122 : decode cX5_worth 122 = .ok (.goto 127, 3) := by decide +kernel
theorem dX5_worth_125 : decode cX5_worth 125 = .ok (.iload_n 2, 1) := by decide +kernel
theorem dX5_worth_126 : decode cX5_worth 126 = .ok (.iconst 1, 1) := by decide +kernel
theorem dX5_worth_127 : decode cX5_worth 127 = .ok (.if_icmp .ge 5, 3) := by decide +kernel
theorem dX5_worth_130 : decode cX5_worth 130 = .ok (.iconst 0, 1) := by decide +kernel
theorem dX5_worth_131 : decode cX5_worth 131 = .ok (.ireturn, 1) := by decide +kernel
theorem dX5_worth_132 : decode cX5_worth 132 = .ok (.iload 5, 2) := by decide +kernel
theorem dX5_worth_134 : decode cX5_worth 134 = .ok (.bipush (-59), 2) := by decide +kernel
theorem dX5_worth_136 : decode cX5_worth 136 = .ok (.if_icmp .ne 12, 3) := by decide +kernel
theorem dX5_worth_139 : decode cX5_worth 139 = .ok (.aload_n 0, 1) := by decide +kernel
theorem dX5_worth_140 : decode cX5_worth 140 = .ok (.getfield 27, 3) := by decide +kernel
theorem dX5_worth_143 : decode cX5_worth 143 = .ok (.iload_n 2, 1) := by decide +kernel
theorem dX5_worth_144 : decode cX5_worth 144 = .ok (.iconst 1, 1) := by decide +kernel
theorem dX5_worth_145 : decode cX5_worth 145 = .ok (.isub, 1) := by decide +kernel
theorem dX5_worth_146 : decode cX5_worth 146 = .ok (.iaload, 1) := by decide +kernel
theorem dX5_worth_147 : decode cX5_worth 147 = .ok (.ireturn, 1) := by decide +kernel
theorem dX5_worth_148 : decode cX5_worth 148 = .ok (.iload 5, 2) := by decide +kernel
theorem dX5_worth_150 : decode cX5_worth 150 = .ok (.bipush (-63), 2) := by decide +kernel
theorem dX5_worth_152 : decode cX5_worth 152 = .ok (.if_icmp .ne 24, 3) := by decide +kernel
theorem dX5_worth_155 : decode cX5_worth 155 = .ok (.iinc 2 (-1), 3) := by decide +kernel
theorem dX5_worth_158 : decode cX5_worth 158 = .ok (.aload_n 0, 1) := by decide +kernel
theorem dX5_worth_159 : decode cX5_worth 159 = .ok (.getfield 27, 3) := by decide +kernel
theorem dX5_worth_162 : decode cX5_worth 162 = .ok (.iload_n 2, 1) := by decide +kernel
theorem dX5_worth_163 : decode cX5_worth 163 = .ok (.iaload, 1) := by decide +kernel
theorem dX5_worth_164 : decode cX5_worth 164 = .ok (.ifCond .ne 7, 3) := by decide +kernel
theorem dX5_worth_167 : decode cX5_worth 167 = .ok (.iconst 1, 1) := by decide +kernel
theorem dX5_worth_168 : decode cX5_worth 168 = .ok (.goto 4, 3) := by decide +kernel
theorem dX5_worth_171 : decode cX5_worth 171 = .ok (.iconst 0, 1) := by decide +kernel
theorem dX5_worth_172 : decode cX5_worth 172 = .ok (.istore_n 3, 1) := by decide +kernel
theorem dX5_worth_173 : decode cX5_worth 173 = .ok (.goto 76, 3) := by decide +kernel
theorem dX5_worth_176 : decode cX5_worth 176 = .ok (.iload 5, 2) := by decide +kernel
theorem dX5_worth_178 : decode cX5_worth 178 = .ok (.bipush (-33), 2) := by decide +kernel
theorem dX5_worth_180 : decode cX5_worth 180 = .ok (.if_icmp .ne 24, 3) := by decide +kernel
theorem dX5_worth_183 : decode cX5_worth 183 = .ok (.aload_n 0, 1) := by decide +kernel
theorem dX5_worth_184 : decode cX5_worth 184 = .ok (.getfield 27, 3) := by decide +kernel
theorem dX5_worth_187 : decode cX5_worth 187 = .ok (.iload_n 2, 1) := by decide +kernel
theorem dX5_worth_188 : decode cX5_worth 188 = .ok (.iconst 1, 1) := by decide +kernel
theorem dX5_worth_189 : decode cX5_worth 189 = .ok (.isub, 1) := by decide +kernel
theorem dX5_worth_190 : decode cX5_worth 190 = .ok (.iconst 1, 1) := by decide +kernel
theorem dX5_worth_191 : decode cX5_worth 191 = .ok (.aload_n 0, 1) := by decide +kernel
theorem dX5_worth_192 : decode cX5_worth 192 = .ok (.getfield 27, 3) := by decide +kernel
theorem dX5_worth_195 : decode cX5_worth 195 = .ok (.iload_n 2, 1) := by decide +kernel
theorem dX5_worth_196 : decode cX5_worth 196 = .ok (.iconst 1, 1) := by decide +kernel
theorem dX5_worth_197 : decode cX5_worth 197 = .ok (.isub, 1) := by decide +kernel
theorem dX5_worth_198 : decode cX5_worth 198 = .ok (.iaload, 1) := by decide +kernel
theorem dX5_worth_199 : decode cX5_worth 199 = .ok (.isub, 1) := by decide +kernel
theorem dX5_worth_200 : decode cX5_worth 200 = .ok (.iastore, 1) := by decide +kernel
theorem dX5_worth_201 : decode cX5_worth 201 = .ok (.goto 48, 3) := by decide +kernel
theorem dX5_worth_204 : decode cX5_worth 204 = .ok (.iload_n 2, 1) := by decide +kernel
theorem dX5_worth_205 : decode cX5_worth 205 = .ok (.iconst 1, 1) := by decide +kernel
theorem dX5_worth_206 : decode cX5_worth 206 = .ok (.if_icmp .le 43, 3) := by decide +kernel
theorem dX5_worth_209 : decode cX5_worth 209 = .ok (.iinc 2 (-1), 3) := by decide +kernel
theorem dX5_worth_212 : decode cX5_worth 212 = .ok (.aload_n 0, 1) := by decide +kernel
theorem dX5_worth_213 : decode cX5_worth 213 = .ok (.getfield 27, 3) := by decide +kernel
theorem dX5_worth_216 : decode cX5_worth 216 = .ok (.iload_n 2, 1) := by decide +kernel
theorem dX5_worth_217 : decode cX5_worth 217 = .ok (.iconst 1, 1) := by decide +kernel
theorem dX5_worth_218 : decode cX5_worth 218 = .ok (.isub, 1) := by decide +kernel
theorem dX5_worth_219 : decode cX5_worth 219 = .ok (.ldc 100, 2) := by decide +kernel
theorem dX5_worth_221 : decode cX5_worth 221 = .ok (.ldc 101, 2) := by decide +kernel
theorem dX5_worth_223 : decode cX5_worth 223 = .ok (.iload 5, 2) := by decide +kernel
theorem dX5_worth_225 : decode cX5_worth 225 = .ok (.ineg, 1) := by decide +kernel
theorem dX5_worth_226 : decode cX5_worth 226 = .ok (.aload_n 0, 1) := by decide +kernel
theorem dX5_worth_227 : decode cX5_worth 227 = .ok (.getfield 27, 3) := by decide +kernel
theorem dX5_worth_230 : decode cX5_worth 230 = .ok (.iload_n 2, 1) := by decide +kernel
theorem dX5_worth_231 : decode cX5_worth 231 = .ok (.iconst 1, 1) := by decide +kernel
theorem dX5_worth_232 : decode cX5_worth 232 = .ok (.isub, 1) := by decide +kernel
theorem dX5_worth_233 : decode cX5_worth 233 = .ok (.iaload, 1) := by decide +kernel
theorem dX5_worth_234 : decode cX5_worth 234 = .ok (.i2l, 1) := by decide +kernel
theorem dX5_worth_235 : decode cX5_worth 235 = .ok (.aload_n 0, 1) := by decide +kernel
theorem dX5_worth_236 : decode cX5_worth 236 = .ok (.getfield 27, 3) := by decide +kernel
theorem dX5_worth_239 : decode cX5_worth 239 = .ok (.iload_n 2, 1) := by decide +kernel
theorem dX5_worth_240 : decode cX5_worth 240 = .ok (.iaload, 1) := by decide +kernel
theorem dX5_worth_241 : decode cX5_worth 241 = .ok (.i2l, 1) := by decide +kernel
theorem dX5_worth_242 : decode cX5_worth 242 = .ok (.invokestatic 102, 3) := by decide +kernel
theorem dX5_worth_245 : decode cX5_worth 245 = .ok (.invokestatic 106, 3) := by decide +kernel
theorem dX5_worth_248 : decode cX5_worth 248 = .ok (.iastore, 1) := by decide +kernel
theorem dX5_worth_249 : decode cX5_worth 249 = .ok (.iinc 4 1, 3) := by decide +kernel
theorem dX5_worth_252 : decode cX5_worth 252 = .ok (.goto (-215), 3) := by decide +kernel
theorem dX5_worth_255 : decode cX5_worth 255 = .ok (.iconst 0, 1) := by decide +kernel
theorem dX5_worth_256 : decode cX5_worth 256 = .ok (.ireturn, 1) := by decide +kernel
theorem dX5_joined_0 : decode cX5_joined 0 = .ok (.iload_n 0, 1) := by decide +kernel
theorem dX5_joined_1 : decode cX5_joined 1 = .ok (.tableswitch 181 38 62 #[177, 181, 181, 181, 123, 115, 181, 119, 181, 127, 181, 181, 181, 181, 181, 181, 181, 181, 181, 181, 181, 181, 153, 141, 165], 115) := by decide +kernel
theorem dX5_joined_116 : decode cX5_joined 116 = .ok (.lload_n 1, 1) := by decide +kernel
theorem dX5_joined_117 : decode cX5_joined 117 = .ok (.lload_n 3, 1) := by decide +kernel
theorem dX5_joined_118 : decode cX5_joined 118 = .ok (.ladd, 1) := by decide +kernel
theorem dX5_joined_119 : decode cX5_joined 119 = .ok (.lreturn, 1) := by decide +kernel
theorem dX5_joined_120 : decode cX5_joined 120 = .ok (.lload_n 1, 1) := by decide +kernel
theorem dX5_joined_121 : decode cX5_joined 121 = .ok (.lload_n 3, 1) := by decide +kernel
theorem dX5_joined_122 : decode cX5_joined 122 = .ok (.lsub, 1) := by decide +kernel
theorem dX5_joined_123 : decode cX5_joined 123 = .ok (.lreturn, 1) := by decide +kernel
theorem dX5_joined_124 : decode cX5_joined 124 = .ok (.lload_n 1, 1) := by decide +kernel
theorem dX5_joined_125 : decode cX5_joined 125 = .ok (.lload_n 3, 1) := by decide +kernel
theorem dX5_joined_126 : decode cX5_joined 126 = .ok (.lmul, 1) := by decide +kernel
theorem dX5_joined_127 : decode cX5_joined 127 = .ok (.lreturn, 1) := by decide +kernel
theorem dX5_joined_128 : decode cX5_joined 128 = .ok (.lload_n 3, 1) := by decide +kernel
theorem dX5_joined_129 : decode cX5_joined 129 = .ok (.lconst 0, 1) := by decide +kernel
theorem dX5_joined_130 : decode cX5_joined 130 = .ok (.lcmp, 1) := by decide +kernel
theorem dX5_joined_131 : decode cX5_joined 131 = .ok (.ifCond .ne 7, 3) := by decide +kernel
theorem dX5_joined_134 : decode cX5_joined 134 = .ok (.lconst 0, 1) := by decide +kernel
theorem dX5_joined_135 : decode cX5_joined 135 = .ok (.goto 6, 3) := by decide +kernel
theorem dX5_joined_138 : decode cX5_joined 138 = .ok (.lload_n 1, 1) := by decide +kernel
theorem dX5_joined_139 : decode cX5_joined 139 = .ok (.lload_n 3, 1) := by decide +kernel
theorem dX5_joined_140 : decode cX5_joined 140 = .ok (.ldiv, 1) := by decide +kernel
theorem dX5_joined_141 : decode cX5_joined 141 = .ok (.lreturn, 1) := by decide +kernel
theorem dX5_joined_142 : decode cX5_joined 142 = .ok (.lload_n 1, 1) := by decide +kernel
theorem dX5_joined_143 : decode cX5_joined 143 = .ok (.lload_n 3, 1) := by decide +kernel
theorem dX5_joined_144 : decode cX5_joined 144 = .ok (.lcmp, 1) := by decide +kernel
theorem dX5_joined_145 : decode cX5_joined 145 = .ok (.ifCond .ne 7, 3) := by decide +kernel
theorem dX5_joined_148 : decode cX5_joined 148 = .ok (.lconst 1, 1) := by decide +kernel
theorem dX5_joined_149 : decode cX5_joined 149 = .ok (.goto 4, 3) := by decide +kernel
theorem dX5_joined_152 : decode cX5_joined 152 = .ok (.lconst 0, 1) := by decide +kernel
theorem dX5_joined_153 : decode cX5_joined 153 = .ok (.lreturn, 1) := by decide +kernel
theorem dX5_joined_154 : decode cX5_joined 154 = .ok (.lload_n 1, 1) := by decide +kernel
theorem dX5_joined_155 : decode cX5_joined 155 = .ok (.lload_n 3, 1) := by decide +kernel
theorem dX5_joined_156 : decode cX5_joined 156 = .ok (.lcmp, 1) := by decide +kernel
theorem dX5_joined_157 : decode cX5_joined 157 = .ok (.ifCond .ge 7, 3) := by decide +kernel
theorem dX5_joined_160 : decode cX5_joined 160 = .ok (.lconst 1, 1) := by decide +kernel
theorem dX5_joined_161 : decode cX5_joined 161 = .ok (.goto 4, 3) := by decide +kernel
theorem dX5_joined_164 : decode cX5_joined 164 = .ok (.lconst 0, 1) := by decide +kernel
theorem dX5_joined_165 : decode cX5_joined 165 = .ok (.lreturn, 1) := by decide +kernel
theorem dX5_joined_166 : decode cX5_joined 166 = .ok (.lload_n 1, 1) := by decide +kernel
theorem dX5_joined_167 : decode cX5_joined 167 = .ok (.lload_n 3, 1) := by decide +kernel
theorem dX5_joined_168 : decode cX5_joined 168 = .ok (.lcmp, 1) := by decide +kernel
theorem dX5_joined_169 : decode cX5_joined 169 = .ok (.ifCond .le 7, 3) := by decide +kernel
theorem dX5_joined_172 : decode cX5_joined 172 = .ok (.lconst 1, 1) := by decide +kernel
theorem dX5_joined_173 : decode cX5_joined 173 = .ok (.goto 4, 3) := by decide +kernel
theorem dX5_joined_176 : decode cX5_joined 176 = .ok (.lconst 0, 1) := by decide +kernel
theorem dX5_joined_177 : decode cX5_joined 177 = .ok (.lreturn, 1) := by decide +kernel
theorem dX5_joined_178 : decode cX5_joined 178 = .ok (.lload_n 1, 1) := by decide +kernel
theorem dX5_joined_179 : decode cX5_joined 179 = .ok (.lload_n 3, 1) := by decide +kernel
theorem dX5_joined_180 : decode cX5_joined 180 = .ok (.land, 1) := by decide +kernel
theorem dX5_joined_181 : decode cX5_joined 181 = .ok (.lreturn, 1) := by decide +kernel
theorem dX5_joined_182 : decode cX5_joined 182 = .ok (.lload_n 1, 1) := by decide +kernel
theorem dX5_joined_183 : decode cX5_joined 183 = .ok (.lload_n 3, 1) := by decide +kernel
theorem dX5_joined_184 : decode cX5_joined 184 = .ok (.lor, 1) := by decide +kernel
theorem dX5_joined_185 : decode cX5_joined 185 = .ok (.lreturn, 1) := by decide +kernel
theorem dX6_init_0 : decode cX6_init 0 = .ok (.aload_n 0, 1) := by decide +kernel
theorem dX6_init_1 : decode cX6_init 1 = .ok (.invokespecial 3, 3) := by decide +kernel
theorem dX6_init_4 : decode cX6_init 4 = .ok (.aload_n 0, 1) := by decide +kernel
theorem dX6_init_5 : decode cX6_init 5 = .ok (.bipush 7, 2) := by decide +kernel
theorem dX6_init_7 : decode cX6_init 7 = .ok (.newarray .int, 2) := by decide +kernel
theorem dX6_init_9 : decode cX6_init 9 = .ok (.putfield 9, 3) := by decide +kernel
theorem dX6_init_12 : decode cX6_init 12 = .ok (.aload_n 0, 1) := by decide +kernel
theorem dX6_init_13 : decode cX6_init 13 = .ok (.aload_n 1, 1) := by decide +kernel
theorem dX6_init_14 : decode cX6_init 14 = .ok (.putfield 15, 3) := by decide +kernel
theorem dX6_init_17 : decode cX6_init 17 = .ok (.aload_n 0, 1) := by decide +kernel
theorem dX6_init_18 : decode cX6_init 18 = .ok (.aload_n 2, 1) := by decide +kernel
theorem dX6_init_19 : decode cX6_init 19 = .ok (.putfield 19, 3) := by decide +kernel
theorem dX6_init_22 : decode cX6_init 22 = .ok (.return_, 1) := by decide +kernel
theorem dX6_read_0 : decode cX6_read 0 = .ok (.iload_n 1, 1) := by decide +kernel
theorem dX6_read_1 : decode cX6_read 1 = .ok (.ifCond .lt 14, 3) := by decide +kernel
theorem dX6_read_4 : decode cX6_read 4 = .ok (.iload_n 2, 1) := by decide +kernel
theorem dX6_read_5 : decode cX6_read 5 = .ok (.iconst 1, 1) := by decide +kernel
theorem dX6_read_6 : decode cX6_read 6 = .ok (.if_icmp .lt 9, 3) := by decide +kernel
theorem dX6_read_9 : decode cX6_read 9 = .ok (.iload_n 2, 1) := by decide +kernel
theorem dX6_read_10 : decode cX6_read 10 = .ok (.bipush 7, 2) := by decide +kernel
theorem dX6_read_12 : decode cX6_read 12 = .ok (.if_icmp .le 5, 3) := by decide +kernel
theorem dX6_read_15 : decode cX6_read 15 = .ok (.iconst 0, 1) := by decide +kernel
theorem dX6_read_16 : decode cX6_read 16 = .ok (.ireturn, 1) := by decide +kernel
theorem dX6_read_17 : decode cX6_read 17 = .ok (.iload_n 1, 1) := by decide +kernel
theorem dX6_read_18 : decode cX6_read 18 = .ok (.istore_n 3, 1) := by decide +kernel
theorem dX6_read_19 : decode cX6_read 19 = .ok (.iconst 0, 1) := by decide +kernel
theorem dX6_read_20 : decode cX6_read 20 = .ok (.istore 4, 2) := by decide +kernel
theorem dX6_read_22 : decode cX6_read 22 = .ok (.iload_n 2, 1) := by decide +kernel
theorem dX6_read_23 : decode cX6_read 23 = .ok (.iconst 1, 1) := by decide +kernel
theorem dX6_read_24 : decode cX6_read 24 = .ok (.isub, 1) := by decide +kernel
theorem dX6_read_25 : decode cX6_read 25 = .ok (.istore 5, 2) := by decide +kernel
theorem dX6_read_27 : decode cX6_read 27 = .ok (.iload 5, 2) := by decide +kernel
theorem dX6_read_29 : decode cX6_read 29 = .ok (.ifCond .lt 62, 3) := by decide +kernel
theorem dX6_read_32 : decode cX6_read 32 = .ok (.iload_n 3, 1) := by decide +kernel
theorem dX6_read_33 : decode cX6_read 33 = .ok (.bipush 10, 2) := by decide +kernel
theorem dX6_read_35 : decode cX6_read 35 = .ok (.irem, 1) := by decide +kernel
theorem dX6_read_36 : decode cX6_read 36 = .ok (.istore 6, 2) := by decide +kernel
theorem dX6_read_38 : decode cX6_read 38 = .ok (.aload_n 0, 1) := by decide +kernel
theorem dX6_read_39 : decode cX6_read 39 = .ok (.getfield 15, 3) := by decide +kernel
theorem dX6_read_42 : decode cX6_read 42 = .ok (.iload 6, 2) := by decide +kernel
theorem dX6_read_44 : decode cX6_read 44 = .ok (.invokevirtual 23, 3) := by decide +kernel
theorem dX6_read_47 : decode cX6_read 47 = .ok (.ifCond .eq 13, 3) := by decide +kernel
theorem dX6_read_50 : decode cX6_read 50 = .ok (.iload 4, 2) := by decide +kernel
theorem dX6_read_52 : decode cX6_read 52 = .ok (.iload 6, 2) := by decide +kernel
theorem dX6_read_54 : decode cX6_read 54 = .ok (.invokestatic 29, 3) := by decide +kernel
theorem dX6_read_57 : decode cX6_read 57 = .ok (.ifCond .eq 5, 3) := by decide +kernel
theorem dX6_read_60 : decode cX6_read 60 = .ok (.iconst 0, 1) := by decide +kernel
theorem dX6_read_61 : decode cX6_read 61 = .ok (.ireturn, 1) := by decide +kernel
theorem dX6_read_62 : decode cX6_read 62 = .ok (.aload_n 0, 1) := by decide +kernel
theorem dX6_read_63 : decode cX6_read 63 = .ok (.getfield 9, 3) := by decide +kernel
theorem dX6_read_66 : decode cX6_read 66 = .ok (.iload 5, 2) := by decide +kernel
theorem dX6_read_68 : decode cX6_read 68 = .ok (.iload 6, 2) := by decide +kernel
theorem dX6_read_70 : decode cX6_read 70 = .ok (.iastore, 1) := by decide +kernel
theorem dX6_read_71 : decode cX6_read 71 = .ok (.iload 4, 2) := by decide +kernel
theorem dX6_read_73 : decode cX6_read 73 = .ok (.iconst 1, 1) := by decide +kernel
theorem dX6_read_74 : decode cX6_read 74 = .ok (.iload 6, 2) := by decide +kernel
theorem dX6_read_76 : decode cX6_read 76 = .ok (.ishl, 1) := by decide +kernel
theorem dX6_read_77 : decode cX6_read 77 = .ok (.ior, 1) := by decide +kernel
theorem dX6_read_78 : decode cX6_read 78 = .ok (.istore 4, 2) := by decide +kernel
theorem dX6_read_80 : decode cX6_read 80 = .ok (.iload_n 3, 1) := by decide +kernel
theorem dX6_read_81 : decode cX6_read 81 = .ok (.bipush 10, 2) := by decide +kernel
theorem dX6_read_83 : decode cX6_read 83 = .ok (.idiv, 1) := by decide +kernel
theorem dX6_read_84 : decode cX6_read 84 = .ok (.istore_n 3, 1) := by decide +kernel
theorem dX6_read_85 : decode cX6_read 85 = .ok (.iinc 5 (-1), 3) := by decide +kernel
theorem dX6_read_88 : decode cX6_read 88 = .ok (.goto (-61), 3) := by decide +kernel
theorem dX6_read_91 : decode cX6_read 91 = .ok (.aload_n 0, 1) := by decide +kernel
theorem dX6_read_92 : decode cX6_read 92 = .ok (.iload_n 2, 1) := by decide +kernel
theorem dX6_read_93 : decode cX6_read 93 = .ok (.putfield 33, 3) := by decide +kernel
theorem dX6_read_96 : decode cX6_read 96 = .ok (.iload_n 3, 1) := by decide +kernel
theorem dX6_read_97 : decode cX6_read 97 = .ok (.ifCond .ne 7, 3) := by decide +kernel
theorem dX6_read_100 : decode cX6_read 100 = .ok (.iconst 1, 1) := by decide +kernel
theorem dX6_read_101 : decode cX6_read 101 = .ok (.goto 4, 3) := by decide +kernel
theorem dX6_read_104 : decode cX6_read 104 = .ok (.iconst 0, 1) := by decide +kernel
theorem dX6_read_105 : decode cX6_read 105 = .ok (.ireturn, 1) := by decide +kernel
theorem dX6_meetingPlace_0 : decode cX6_meetingPlace 0 = .ok (.aload_n 0, 1) := by decide +kernel
theorem dX6_meetingPlace_1 : decode cX6_meetingPlace 1 = .ok (.getfield 19, 3) := by decide +kernel
theorem dX6_meetingPlace_4 : decode cX6_meetingPlace 4 = .ok (.invokevirtual 37, 3) := by decide +kernel
theorem dX6_meetingPlace_7 : decode cX6_meetingPlace 7 = .ok (.istore_n 1, 1) := by decide +kernel
theorem dX6_meetingPlace_8 : decode cX6_meetingPlace 8 = .ok (.aload_n 0, 1) := by decide +kernel
theorem dX6_meetingPlace_9 : decode cX6_meetingPlace 9 = .ok (.getfield 19, 3) := by decide +kernel
theorem dX6_meetingPlace_12 : decode cX6_meetingPlace 12 = .ok (.invokevirtual 43, 3) := by decide +kernel
theorem dX6_meetingPlace_15 : decode cX6_meetingPlace 15 = .ok (.istore_n 2, 1) := by decide +kernel
theorem dX6_meetingPlace_16 : decode cX6_meetingPlace 16 = .ok (.aload_n 0, 1) := by decide +kernel
theorem dX6_meetingPlace_17 : decode cX6_meetingPlace 17 = .ok (.getfield 19, 3) := by decide +kernel
theorem dX6_meetingPlace_20 : decode cX6_meetingPlace 20 = .ok (.invokevirtual 46, 3) := by decide +kernel
theorem dX6_meetingPlace_23 : decode cX6_meetingPlace 23 = .ok (.istore_n 3, 1) := by decide +kernel
theorem dX6_meetingPlace_24 : decode cX6_meetingPlace 24 = .ok (.iconst 0, 1) := by decide +kernel
theorem dX6_meetingPlace_25 : decode cX6_meetingPlace 25 = .ok (.istore 4, 2) := by decide +kernel
theorem dX6_meetingPlace_27 : decode cX6_meetingPlace 27 = .ok (.iload 4, 2) := by decide +kernel
theorem dX6_meetingPlace_29 : decode cX6_meetingPlace 29 = .ok (.aload_n 0, 1) := by decide +kernel
theorem dX6_meetingPlace_30 : decode cX6_meetingPlace 30 = .ok (.getfield 33, 3) := by decide +kernel
theorem dX6_meetingPlace_33 : decode cX6_meetingPlace 33 = .ok (.if_icmp .ge 92, 3) := by decide +kernel
theorem dX6_meetingPlace_36 : decode cX6_meetingPlace 36 = .ok (.aload_n 0, 1) := by decide +kernel
theorem dX6_meetingPlace_37 : decode cX6_meetingPlace 37 = .ok (.getfield 9, 3) := by decide +kernel
theorem dX6_meetingPlace_40 : decode cX6_meetingPlace 40 = .ok (.iload 4, 2) := by decide +kernel
theorem dX6_meetingPlace_42 : decode cX6_meetingPlace 42 = .ok (.iaload, 1) := by decide +kernel
theorem dX6_meetingPlace_43 : decode cX6_meetingPlace 43 = .ok (.istore 5, 2) := by decide +kernel
theorem dX6_meetingPlace_45 : decode cX6_meetingPlace 45 = .ok (.aload_n 0, 1) := by decide +kernel
theorem dX6_meetingPlace_46 : decode cX6_meetingPlace 46 = .ok (.getfield 19, 3) := by decide +kernel
theorem dX6_meetingPlace_49 : decode cX6_meetingPlace 49 = .ok (.iload_n 1, 1) := by decide +kernel
theorem dX6_meetingPlace_50 : decode cX6_meetingPlace 50 = .ok (.iload_n 2, 1) := by decide +kernel
theorem dX6_meetingPlace_51 : decode cX6_meetingPlace 51 = .ok (.iload_n 3, 1) := by decide +kernel
theorem dX6_meetingPlace_52 : decode cX6_meetingPlace 52 = .ok (.iload 5, 2) := by decide +kernel
theorem dX6_meetingPlace_54 : decode cX6_meetingPlace 54 = .ok (.invokevirtual 49, 3) := by decide +kernel
theorem dX6_meetingPlace_57 : decode cX6_meetingPlace 57 = .ok (.ifCond .ne 5, 3) := by decide +kernel
theorem dX6_meetingPlace_60 : decode cX6_meetingPlace 60 = .ok (.iconst (-1), 1) := by decide +kernel
theorem dX6_meetingPlace_61 : decode cX6_meetingPlace 61 = .ok (.ireturn, 1) := by decide +kernel
theorem dX6_meetingPlace_62 : decode cX6_meetingPlace 62 = .ok (.aload_n 0, 1) := by decide +kernel
theorem dX6_meetingPlace_63 : decode cX6_meetingPlace 63 = .ok (.getfield 15, 3) := by decide +kernel
theorem dX6_meetingPlace_66 : decode cX6_meetingPlace 66 = .ok (.iload_n 1, 1) := by decide +kernel
theorem dX6_meetingPlace_67 : decode cX6_meetingPlace 67 = .ok (.iload 5, 2) := by decide +kernel
theorem dX6_meetingPlace_69 : decode cX6_meetingPlace 69 = .ok (.invokevirtual 53, 3) := by decide +kernel
theorem dX6_meetingPlace_72 : decode cX6_meetingPlace 72 = .ok (.istore 6, 2) := by decide +kernel
theorem dX6_meetingPlace_74 : decode cX6_meetingPlace 74 = .ok (.iload_n 2, 1) := by decide +kernel
theorem dX6_meetingPlace_75 : decode cX6_meetingPlace 75 = .ok (.iload 6, 2) := by decide +kernel
theorem dX6_meetingPlace_77 : decode cX6_meetingPlace 77 = .ok (.iadd, 1) := by decide +kernel
theorem dX6_meetingPlace_78 : decode cX6_meetingPlace 78 = .ok (.aload_n 0, 1) := by decide +kernel
theorem dX6_meetingPlace_79 : decode cX6_meetingPlace 79 = .ok (.getfield 15, 3) := by decide +kernel
theorem dX6_meetingPlace_82 : decode cX6_meetingPlace 82 = .ok (.iload 5, 2) := by decide +kernel
theorem dX6_meetingPlace_84 : decode cX6_meetingPlace 84 = .ok (.invokevirtual 57, 3) := by decide +kernel
theorem dX6_meetingPlace_87 : decode cX6_meetingPlace 87 = .ok (.isub, 1) := by decide +kernel
theorem dX6_meetingPlace_88 : decode cX6_meetingPlace 88 = .ok (.istore 7, 2) := by decide +kernel
theorem dX6_meetingPlace_90 : decode cX6_meetingPlace 90 = .ok (.iload 7, 2) := by decide +kernel
theorem dX6_meetingPlace_92 : decode cX6_meetingPlace 92 = .ok (.ifCond .eq 9, 3) := by decide +kernel
theorem dX6_meetingPlace_95 : decode cX6_meetingPlace 95 = .ok (.iload 7, 2) := by decide +kernel
theorem dX6_meetingPlace_97 : decode cX6_meetingPlace 97 = .ok (.iconst 1, 1) := by decide +kernel
theorem dX6_meetingPlace_98 : decode cX6_meetingPlace 98 = .ok (.if_icmp .ne 6, 3) := by decide +kernel
theorem dX6_meetingPlace_101 : decode cX6_meetingPlace 101 = .ok (.iload 5, 2) := by decide +kernel
theorem dX6_meetingPlace_103 : decode cX6_meetingPlace 103 = .ok (.ireturn, 1) := by decide +kernel
theorem dX6_meetingPlace_104 : decode cX6_meetingPlace 104 = .ok (.iload 5, 2) := by decide +kernel
theorem dX6_meetingPlace_106 : decode cX6_meetingPlace 106 = .ok (.istore_n 1, 1) := by decide +kernel
theorem dX6_meetingPlace_107 : decode cX6_meetingPlace 107 = .ok (.iload_n 2, 1) := by decide +kernel
theorem dX6_meetingPlace_108 : decode cX6_meetingPlace 108 = .ok (.iload 6, 2) := by decide +kernel
theorem dX6_meetingPlace_110 : decode cX6_meetingPlace 110 = .ok (.iconst 1, 1) := by decide +kernel
theorem dX6_meetingPlace_111 : decode cX6_meetingPlace 111 = .ok (.iadd, 1) := by decide +kernel
theorem dX6_meetingPlace_112 : decode cX6_meetingPlace 112 = .ok (.iadd, 1) := by decide +kernel
theorem dX6_meetingPlace_113 : decode cX6_meetingPlace 113 = .ok (.istore_n 2, 1) := by decide +kernel
theorem dX6_meetingPlace_114 : decode cX6_meetingPlace 114 = .ok (.iload_n 3, 1) := by decide +kernel
theorem dX6_meetingPlace_115 : decode cX6_meetingPlace 115 = .ok (.iload 6, 2) := by decide +kernel
theorem dX6_meetingPlace_117 : decode cX6_meetingPlace 117 = .ok (.iadd, 1) := by decide +kernel
theorem dX6_meetingPlace_118 : decode cX6_meetingPlace 118 = .ok (.istore_n 3, 1) := by decide +kernel
theorem dX6_meetingPlace_119 : decode cX6_meetingPlace 119 = .ok (.iinc 4 1, 3) := by decide +kernel
theorem dX6_meetingPlace_122 : decode cX6_meetingPlace 122 = .ok (.goto (-95), 3) := by decide +kernel
theorem dX6_meetingPlace_125 : decode cX6_meetingPlace 125 = .ok (.iconst (-1), 1) := by decide +kernel
theorem dX6_meetingPlace_126 : decode cX6_meetingPlace 126 = .ok (.ireturn, 1) := by decide +kernel
theorem dX6_partsThatWalk_0 : decode cX6_partsThatWalk 0 = .ok (.aload_n 0, 1) := by decide +kernel
theorem dX6_partsThatWalk_1 : decode cX6_partsThatWalk 1 = .ok (.iload_n 1, 1) := by decide +kernel
theorem dX6_partsThatWalk_2 : decode cX6_partsThatWalk 2 = .ok (.putfield 61, 3) := by decide +kernel
theorem dX6_partsThatWalk_5 : decode cX6_partsThatWalk 5 = .ok (.aload_n 0, 1) := by decide +kernel
theorem dX6_partsThatWalk_6 : decode cX6_partsThatWalk 6 = .ok (.ldc 64, 2) := by decide +kernel
theorem dX6_partsThatWalk_8 : decode cX6_partsThatWalk 8 = .ok (.iconst 0, 1) := by decide +kernel
theorem dX6_partsThatWalk_9 : decode cX6_partsThatWalk 9 = .ok (.aload_n 0, 1) := by decide +kernel
theorem dX6_partsThatWalk_10 : decode cX6_partsThatWalk 10 = .ok (.getfield 19, 3) := by decide +kernel
theorem dX6_partsThatWalk_13 : decode cX6_partsThatWalk 13 = .ok (.invokevirtual 37, 3) := by decide +kernel
theorem dX6_partsThatWalk_16 : decode cX6_partsThatWalk 16 = .ok (.aload_n 0, 1) := by decide +kernel
theorem dX6_partsThatWalk_17 : decode cX6_partsThatWalk 17 = .ok (.getfield 19, 3) := by decide +kernel
theorem dX6_partsThatWalk_20 : decode cX6_partsThatWalk 20 = .ok (.invokevirtual 43, 3) := by decide +kernel
theorem dX6_partsThatWalk_23 : decode cX6_partsThatWalk 23 = .ok (.aload_n 0, 1) := by decide +kernel
theorem dX6_partsThatWalk_24 : decode cX6_partsThatWalk 24 = .ok (.getfield 19, 3) := by decide +kernel
theorem dX6_partsThatWalk_27 : decode cX6_partsThatWalk 27 = .ok (.invokevirtual 46, 3) := by decide +kernel
theorem dX6_partsThatWalk_30 : decode cX6_partsThatWalk 30 = .ok (.invokevirtual 65, 3) := by decide +kernel
theorem dX6_partsThatWalk_33 : decode cX6_partsThatWalk 33 = .ok (.ireturn, 1) := by decide +kernel
theorem dX6_partsOf_0 : decode cX6_partsOf 0 = .ok (.iload_n 2, 1) := by decide +kernel
theorem dX6_partsOf_1 : decode cX6_partsOf 1 = .ok (.aload_n 0, 1) := by decide +kernel
theorem dX6_partsOf_2 : decode cX6_partsOf 2 = .ok (.getfield 33, 3) := by decide +kernel
theorem dX6_partsOf_5 : decode cX6_partsOf 5 = .ok (.if_icmp .ge 9, 3) := by decide +kernel
theorem dX6_partsOf_8 : decode cX6_partsOf 8 = .ok (.iload_n 2, 1) := by decide +kernel
theorem dX6_partsOf_9 : decode cX6_partsOf 9 = .ok (.bipush 7, 2) := by decide +kernel
theorem dX6_partsOf_11 : decode cX6_partsOf 11 = .ok (.if_icmp .lt 5, 3) := by decide +kernel
theorem dX6_partsOf_14 : decode cX6_partsOf 14 = .ok (.iload_n 1, 1) := by decide +kernel
theorem dX6_partsOf_15 : decode cX6_partsOf 15 = .ok (.ireturn, 1) := by decide +kernel
theorem dX6_partsOf_16 : decode cX6_partsOf 16 = .ok (.aload_n 0, 1) := by decide +kernel
theorem dX6_partsOf_17 : decode cX6_partsOf 17 = .ok (.getfield 9, 3) := by decide +kernel
theorem dX6_partsOf_20 : decode cX6_partsOf 20 = .ok (.iload_n 2, 1) := by decide +kernel
theorem dX6_partsOf_21 : decode cX6_partsOf 21 = .ok (.iaload, 1) := by decide +kernel
theorem dX6_partsOf_22 : decode cX6_partsOf 22 = .ok (.istore 6, 2) := by decide +kernel
theorem dX6_partsOf_24 : decode cX6_partsOf 24 = .ok (.aload_n 0, 1) := by decide +kernel
theorem dX6_partsOf_25 : decode cX6_partsOf 25 = .ok (.getfield 15, 3) := by decide +kernel
theorem dX6_partsOf_28 : decode cX6_partsOf 28 = .ok (.iload_n 3, 1) := by decide +kernel
theorem dX6_partsOf_29 : decode cX6_partsOf 29 = .ok (.iload 6, 2) := by decide +kernel
theorem dX6_partsOf_31 : decode cX6_partsOf 31 = .ok (.invokevirtual 53, 3) := by decide +kernel
theorem dX6_partsOf_34 : decode cX6_partsOf 34 = .ok (.istore 7, 2) := by decide +kernel
theorem dX6_partsOf_36 : decode cX6_partsOf 36 = .ok (.iload_n 1, 1) := by decide +kernel
theorem dX6_partsOf_37 : decode cX6_partsOf 37 = .ok (.i2l, 1) := by decide +kernel
theorem dX6_partsOf_38 : decode cX6_partsOf 38 = .ok (.aload_n 0, 1) := by decide +kernel
theorem dX6_partsOf_39 : decode cX6_partsOf 39 = .ok (.getfield 61, 3) := by decide +kernel
theorem dX6_partsOf_42 : decode cX6_partsOf 42 = .ok (.i2l, 1) := by decide +kernel
theorem dX6_partsOf_43 : decode cX6_partsOf 43 = .ok (.lmul, 1) := by decide +kernel
theorem dX6_partsOf_44 : decode cX6_partsOf 44 = .ok (.ldc2_w 69, 3) := by decide +kernel
theorem dX6_partsOf_47 : decode cX6_partsOf 47 = .ok (.ldiv, 1) := by decide +kernel
theorem dX6_partsOf_48 : decode cX6_partsOf 48 = .ok (.l2i, 1) := by decide +kernel
theorem dX6_partsOf_49 : decode cX6_partsOf 49 = .ok (.istore 8, 2) := by decide +kernel
theorem dX6_partsOf_51 : decode cX6_partsOf 51 = .ok (.iconst 0, 1) := by decide +kernel
theorem dX6_partsOf_52 : decode cX6_partsOf 52 = .ok (.istore 9, 2) := by decide +kernel
theorem dX6_partsOf_54 : decode cX6_partsOf 54 = .ok (.aload_n 0, 1) := by decide +kernel
theorem dX6_partsOf_55 : decode cX6_partsOf 55 = .ok (.getfield 19, 3) := by decide +kernel
theorem dX6_partsOf_58 : decode cX6_partsOf 58 = .ok (.iload_n 3, 1) := by decide +kernel
theorem dX6_partsOf_59 : decode cX6_partsOf 59 = .ok (.iload 4, 2) := by decide +kernel
theorem dX6_partsOf_61 : decode cX6_partsOf 61 = .ok (.iload 5, 2) := by decide +kernel
theorem dX6_partsOf_63 : decode cX6_partsOf 63 = .ok (.iload 6, 2) := by decide +kernel
theorem dX6_partsOf_65 : decode cX6_partsOf 65 = .ok (.invokevirtual 49, 3) := by decide +kernel
theorem dX6_partsOf_68 : decode cX6_partsOf 68 = .ok (.ifCond .eq 33, 3) := by decide +kernel
theorem dX6_partsOf_71 : decode cX6_partsOf 71 = .ok (.iload 9, 2) := by decide +kernel
theorem dX6_partsOf_73 : decode cX6_partsOf 73 = .ok (.aload_n 0, 1) := by decide +kernel
theorem dX6_partsOf_74 : decode cX6_partsOf 74 = .ok (.iload_n 1, 1) := by decide +kernel
theorem dX6_partsOf_75 : decode cX6_partsOf 75 = .ok (.iload 8, 2) := by decide +kernel
theorem dX6_partsOf_77 : decode cX6_partsOf 77 = .ok (.isub, 1) := by decide +kernel
theorem dX6_partsOf_78 : decode cX6_partsOf 78 = .ok (.iload_n 2, 1) := by decide +kernel
theorem dX6_partsOf_79 : decode cX6_partsOf 79 = .ok (.iconst 1, 1) := by decide +kernel
theorem dX6_partsOf_80 : decode cX6_partsOf 80 = .ok (.iadd, 1) := by decide +kernel
theorem dX6_partsOf_81 : decode cX6_partsOf 81 = .ok (.iload 6, 2) := by decide +kernel
theorem dX6_partsOf_83 : decode cX6_partsOf 83 = .ok (.iload 4, 2) := by decide +kernel
theorem dX6_partsOf_85 : decode cX6_partsOf 85 = .ok (.iload 7, 2) := by decide +kernel
theorem dX6_partsOf_87 : decode cX6_partsOf 87 = .ok (.iadd, 1) := by decide +kernel
theorem dX6_partsOf_88 : decode cX6_partsOf 88 = .ok (.iconst 1, 1) := by decide +kernel
theorem dX6_partsOf_89 : decode cX6_partsOf 89 = .ok (.iadd, 1) := by decide +kernel
theorem dX6_partsOf_90 : decode cX6_partsOf 90 = .ok (.iload 5, 2) := by decide +kernel
theorem dX6_partsOf_92 : decode cX6_partsOf 92 = .ok (.iload 7, 2) := by decide +kernel
theorem dX6_partsOf_94 : decode cX6_partsOf 94 = .ok (.iadd, 1) := by decide +kernel
theorem dX6_partsOf_95 : decode cX6_partsOf 95 = .ok (.invokevirtual 65, 3) := by decide +kernel
theorem dX6_partsOf_98 : decode cX6_partsOf 98 = .ok (.iadd, 1) := by decide +kernel
theorem dX6_partsOf_99 : decode cX6_partsOf 99 = .ok (.istore 9, 2) := by decide +kernel
theorem dX6_partsOf_101 : decode cX6_partsOf 101 = .ok (.aload_n 0, 1) := by decide +kernel
theorem dX6_partsOf_102 : decode cX6_partsOf 102 = .ok (.getfield 19, 3) := by decide +kernel
theorem dX6_partsOf_105 : decode cX6_partsOf 105 = .ok (.iload_n 3, 1) := by decide +kernel
theorem dX6_partsOf_106 : decode cX6_partsOf 106 = .ok (.iload 4, 2) := by decide +kernel
theorem dX6_partsOf_108 : decode cX6_partsOf 108 = .ok (.iconst 1, 1) := by decide +kernel
theorem dX6_partsOf_109 : decode cX6_partsOf 109 = .ok (.iadd, 1) := by decide +kernel
theorem dX6_partsOf_110 : decode cX6_partsOf 110 = .ok (.iload 5, 2) := by decide +kernel
theorem dX6_partsOf_112 : decode cX6_partsOf 112 = .ok (.iload 6, 2) := by decide +kernel
theorem dX6_partsOf_114 : decode cX6_partsOf 114 = .ok (.invokevirtual 49, 3) := by decide +kernel
theorem dX6_partsOf_117 : decode cX6_partsOf 117 = .ok (.ifCond .eq 31, 3) := by decide +kernel
theorem dX6_partsOf_120 : decode cX6_partsOf 120 = .ok (.iload 9, 2) := by decide +kernel
theorem dX6_partsOf_122 : decode cX6_partsOf 122 = .ok (.aload_n 0, 1) := by decide +kernel
theorem dX6_partsOf_123 : decode cX6_partsOf 123 = .ok (.iload 8, 2) := by decide +kernel
theorem dX6_partsOf_125 : decode cX6_partsOf 125 = .ok (.iload_n 2, 1) := by decide +kernel
theorem dX6_partsOf_126 : decode cX6_partsOf 126 = .ok (.iconst 1, 1) := by decide +kernel
theorem dX6_partsOf_127 : decode cX6_partsOf 127 = .ok (.iadd, 1) := by decide +kernel
theorem dX6_partsOf_128 : decode cX6_partsOf 128 = .ok (.iload 6, 2) := by decide +kernel
theorem dX6_partsOf_130 : decode cX6_partsOf 130 = .ok (.iload 4, 2) := by decide +kernel
theorem dX6_partsOf_132 : decode cX6_partsOf 132 = .ok (.iload 7, 2) := by decide +kernel
theorem dX6_partsOf_134 : decode cX6_partsOf 134 = .ok (.iadd, 1) := by decide +kernel
theorem dX6_partsOf_135 : decode cX6_partsOf 135 = .ok (.iconst 2, 1) := by decide +kernel
theorem dX6_partsOf_136 : decode cX6_partsOf 136 = .ok (.iadd, 1) := by decide +kernel
theorem dX6_partsOf_137 : decode cX6_partsOf 137 = .ok (.iload 5, 2) := by decide +kernel
theorem dX6_partsOf_139 : decode cX6_partsOf 139 = .ok (.iload 7, 2) := by decide +kernel
theorem dX6_partsOf_141 : decode cX6_partsOf 141 = .ok (.iadd, 1) := by decide +kernel
theorem dX6_partsOf_142 : decode cX6_partsOf 142 = .ok (.invokevirtual 65, 3) := by decide +kernel
theorem dX6_partsOf_145 : decode cX6_partsOf 145 = .ok (.iadd, 1) := by decide +kernel
theorem dX6_partsOf_146 : decode cX6_partsOf 146 = .ok (.istore 9, 2) := by decide +kernel
theorem dX6_partsOf_148 : decode cX6_partsOf 148 = .ok (.iload 9, 2) := by decide +kernel
theorem dX6_partsOf_150 : decode cX6_partsOf 150 = .ok (.ireturn, 1) := by decide +kernel
theorem dX7_init_0 : decode cX7_init 0 = .ok (.aload_n 0, 1) := by decide +kernel
theorem dX7_init_1 : decode cX7_init 1 = .ok (.invokespecial 3, 3) := by decide +kernel
theorem dX7_init_4 : decode cX7_init 4 = .ok (.aload_n 0, 1) := by decide +kernel
theorem dX7_init_5 : decode cX7_init 5 = .ok (.aload_n 1, 1) := by decide +kernel
theorem dX7_init_6 : decode cX7_init 6 = .ok (.putfield 9, 3) := by decide +kernel
theorem dX7_init_9 : decode cX7_init 9 = .ok (.aload_n 0, 1) := by decide +kernel
theorem dX7_init_10 : decode cX7_init 10 = .ok (.aload_n 2, 1) := by decide +kernel
theorem dX7_init_11 : decode cX7_init 11 = .ok (.putfield 15, 3) := by decide +kernel
theorem dX7_init_14 : decode cX7_init 14 = .ok (.return_, 1) := by decide +kernel
theorem dX7_seeMost_0 : decode cX7_seeMost 0 = .ok (.aload_n 0, 1) := by decide +kernel
theorem dX7_seeMost_1 : decode cX7_seeMost 1 = .ok (.iconst (-1), 1) := by decide +kernel
theorem dX7_seeMost_2 : decode cX7_seeMost 2 = .ok (.putfield 19, 3) := by decide +kernel
theorem dX7_seeMost_5 : decode cX7_seeMost 5 = .ok (.aload_n 0, 1) := by decide +kernel
theorem dX7_seeMost_6 : decode cX7_seeMost 6 = .ok (.iconst 0, 1) := by decide +kernel
theorem dX7_seeMost_7 : decode cX7_seeMost 7 = .ok (.putfield 23, 3) := by decide +kernel
theorem dX7_seeMost_10 : decode cX7_seeMost 10 = .ok (.aload_n 0, 1) := by decide +kernel
theorem dX7_seeMost_11 : decode cX7_seeMost 11 = .ok (.iconst 0, 1) := by decide +kernel
theorem dX7_seeMost_12 : decode cX7_seeMost 12 = .ok (.putfield 26, 3) := by decide +kernel
theorem dX7_seeMost_15 : decode cX7_seeMost 15 = .ok (.aload_n 0, 1) := by decide +kernel
theorem dX7_seeMost_16 : decode cX7_seeMost 16 = .ok (.aload_n 0, 1) := by decide +kernel
theorem dX7_seeMost_17 : decode cX7_seeMost 17 = .ok (.getfield 15, 3) := by decide +kernel
theorem dX7_seeMost_20 : decode cX7_seeMost 20 = .ok (.invokevirtual 29, 3) := by decide +kernel
theorem dX7_seeMost_23 : decode cX7_seeMost 23 = .ok (.putfield 35, 3) := by decide +kernel
theorem dX7_seeMost_26 : decode cX7_seeMost 26 = .ok (.aload_n 0, 1) := by decide +kernel
theorem dX7_seeMost_27 : decode cX7_seeMost 27 = .ok (.aload_n 0, 1) := by decide +kernel
theorem dX7_seeMost_28 : decode cX7_seeMost 28 = .ok (.getfield 15, 3) := by decide +kernel
theorem dX7_seeMost_31 : decode cX7_seeMost 31 = .ok (.invokevirtual 38, 3) := by decide +kernel
theorem dX7_seeMost_34 : decode cX7_seeMost 34 = .ok (.aload_n 0, 1) := by decide +kernel
theorem dX7_seeMost_35 : decode cX7_seeMost 35 = .ok (.getfield 15, 3) := by decide +kernel
theorem dX7_seeMost_38 : decode cX7_seeMost 38 = .ok (.invokevirtual 29, 3) := by decide +kernel
theorem dX7_seeMost_41 : decode cX7_seeMost 41 = .ok (.aload_n 0, 1) := by decide +kernel
theorem dX7_seeMost_42 : decode cX7_seeMost 42 = .ok (.getfield 15, 3) := by decide +kernel
theorem dX7_seeMost_45 : decode cX7_seeMost 45 = .ok (.invokevirtual 41, 3) := by decide +kernel
theorem dX7_seeMost_48 : decode cX7_seeMost 48 = .ok (.iconst 0, 1) := by decide +kernel
theorem dX7_seeMost_49 : decode cX7_seeMost 49 = .ok (.iconst 0, 1) := by decide +kernel
theorem dX7_seeMost_50 : decode cX7_seeMost 50 = .ok (.iconst 0, 1) := by decide +kernel
theorem dX7_seeMost_51 : decode cX7_seeMost 51 = .ok (.invokevirtual 44, 3) := by decide +kernel
theorem dX7_seeMost_54 : decode cX7_seeMost 54 = .ok (.return_, 1) := by decide +kernel
theorem dX7_seeOn_0 : decode cX7_seeOn 0 = .ok (.iload 4, 2) := by decide +kernel
theorem dX7_seeOn_2 : decode cX7_seeOn 2 = .ok (.invokestatic 48, 3) := by decide +kernel
theorem dX7_seeOn_5 : decode cX7_seeOn 5 = .ok (.istore 7, 2) := by decide +kernel
theorem dX7_seeOn_7 : decode cX7_seeOn 7 = .ok (.aload_n 0, 1) := by decide +kernel
theorem dX7_seeOn_8 : decode cX7_seeOn 8 = .ok (.iload 6, 2) := by decide +kernel
theorem dX7_seeOn_10 : decode cX7_seeOn 10 = .ok (.iload 7, 2) := by decide +kernel
theorem dX7_seeOn_12 : decode cX7_seeOn 12 = .ok (.invokevirtual 54, 3) := by decide +kernel
theorem dX7_seeOn_15 : decode cX7_seeOn 15 = .ok (.ifCond .eq 26, 3) := by decide +kernel
theorem dX7_seeOn_18 : decode cX7_seeOn 18 = .ok (.aload_n 0, 1) := by decide +kernel
theorem dX7_seeOn_19 : decode cX7_seeOn 19 = .ok (.iload 5, 2) := by decide +kernel
theorem dX7_seeOn_21 : decode cX7_seeOn 21 = .ok (.putfield 19, 3) := by decide +kernel
theorem dX7_seeOn_24 : decode cX7_seeOn 24 = .ok (.aload_n 0, 1) := by decide +kernel
theorem dX7_seeOn_25 : decode cX7_seeOn 25 = .ok (.iload 7, 2) := by decide +kernel
theorem dX7_seeOn_27 : decode cX7_seeOn 27 = .ok (.putfield 23, 3) := by decide +kernel
theorem dX7_seeOn_30 : decode cX7_seeOn 30 = .ok (.aload_n 0, 1) := by decide +kernel
theorem dX7_seeOn_31 : decode cX7_seeOn 31 = .ok (.iload 6, 2) := by decide +kernel
theorem dX7_seeOn_33 : decode cX7_seeOn 33 = .ok (.putfield 26, 3) := by decide +kernel
theorem dX7_seeOn_36 : decode cX7_seeOn 36 = .ok (.aload_n 0, 1) := by decide +kernel
theorem dX7_seeOn_37 : decode cX7_seeOn 37 = .ok (.iload_n 2, 1) := by decide +kernel
theorem dX7_seeOn_38 : decode cX7_seeOn 38 = .ok (.putfield 35, 3) := by decide +kernel
theorem dX7_seeOn_41 : decode cX7_seeOn 41 = .ok (.aload_n 0, 1) := by decide +kernel
theorem dX7_seeOn_42 : decode cX7_seeOn 42 = .ok (.iload 6, 2) := by decide +kernel
theorem dX7_seeOn_44 : decode cX7_seeOn 44 = .ok (.aload_n 0, 1) := by decide +kernel
theorem dX7_seeOn_45 : decode cX7_seeOn 45 = .ok (.iload 4, 2) := by decide +kernel
theorem dX7_seeOn_47 : decode cX7_seeOn 47 = .ok (.invokevirtual 58, 3) := by decide +kernel
theorem dX7_seeOn_50 : decode cX7_seeOn 50 = .ok (.iadd, 1) := by decide +kernel
theorem dX7_seeOn_51 : decode cX7_seeOn 51 = .ok (.iload 7, 2) := by decide +kernel
theorem dX7_seeOn_53 : decode cX7_seeOn 53 = .ok (.aload_n 0, 1) := by decide +kernel
theorem dX7_seeOn_54 : decode cX7_seeOn 54 = .ok (.iload 4, 2) := by decide +kernel
theorem dX7_seeOn_56 : decode cX7_seeOn 56 = .ok (.invokevirtual 61, 3) := by decide +kernel
theorem dX7_seeOn_59 : decode cX7_seeOn 59 = .ok (.iadd, 1) := by decide +kernel
theorem dX7_seeOn_60 : decode cX7_seeOn 60 = .ok (.invokevirtual 54, 3) := by decide +kernel
theorem dX7_seeOn_63 : decode cX7_seeOn 63 = .ok (.ifCond .ne 4, 3) := by decide +kernel
theorem dX7_seeOn_66 : decode cX7_seeOn 66 = .ok (.return_, 1) := by decide +kernel
theorem dX7_seeOn_67 : decode cX7_seeOn 67 = .ok (.iconst 0, 1) := by decide +kernel
theorem dX7_seeOn_68 : decode cX7_seeOn 68 = .ok (.istore 8, 2) := by decide +kernel
theorem dX7_seeOn_70 : decode cX7_seeOn 70 = .ok (.iload 8, 2) := by decide +kernel
theorem dX7_seeOn_72 : decode cX7_seeOn 72 = .ok (.aload_n 0, 1) := by decide +kernel
theorem dX7_seeOn_73 : decode cX7_seeOn 73 = .ok (.getfield 9, 3) := by decide +kernel
theorem dX7_seeOn_76 : decode cX7_seeOn 76 = .ok (.getfield 64, 3) := by decide +kernel
theorem dX7_seeOn_79 : decode cX7_seeOn 79 = .ok (.if_icmp .ge 113, 3) := by decide +kernel
theorem dX7_seeOn_82 : decode cX7_seeOn 82 = .ok (.iload 4, 2) := by decide +kernel
theorem dX7_seeOn_84 : decode cX7_seeOn 84 = .ok (.iload 8, 2) := by decide +kernel
theorem dX7_seeOn_86 : decode cX7_seeOn 86 = .ok (.invokestatic 69, 3) := by decide +kernel
theorem dX7_seeOn_89 : decode cX7_seeOn 89 = .ok (.ifCond .ne 97, 3) := by decide +kernel
theorem dX7_seeOn_92 : decode cX7_seeOn 92 = .ok (.aload_n 0, 1) := by decide +kernel
theorem dX7_seeOn_93 : decode cX7_seeOn 93 = .ok (.getfield 15, 3) := by decide +kernel
theorem dX7_seeOn_96 : decode cX7_seeOn 96 = .ok (.iload_n 1, 1) := by decide +kernel
theorem dX7_seeOn_97 : decode cX7_seeOn 97 = .ok (.iload_n 2, 1) := by decide +kernel
theorem dX7_seeOn_98 : decode cX7_seeOn 98 = .ok (.iload_n 3, 1) := by decide +kernel
theorem dX7_seeOn_99 : decode cX7_seeOn 99 = .ok (.iload 8, 2) := by decide +kernel
theorem dX7_seeOn_101 : decode cX7_seeOn 101 = .ok (.invokevirtual 72, 3) := by decide +kernel
theorem dX7_seeOn_104 : decode cX7_seeOn 104 = .ok (.ifCond .eq 82, 3) := by decide +kernel
theorem dX7_seeOn_107 : decode cX7_seeOn 107 = .ok (.aload_n 0, 1) := by decide +kernel
theorem dX7_seeOn_108 : decode cX7_seeOn 108 = .ok (.getfield 9, 3) := by decide +kernel
theorem dX7_seeOn_111 : decode cX7_seeOn 111 = .ok (.iload_n 1, 1) := by decide +kernel
theorem dX7_seeOn_112 : decode cX7_seeOn 112 = .ok (.iload 8, 2) := by decide +kernel
theorem dX7_seeOn_114 : decode cX7_seeOn 114 = .ok (.invokevirtual 76, 3) := by decide +kernel
theorem dX7_seeOn_117 : decode cX7_seeOn 117 = .ok (.istore 9, 2) := by decide +kernel
theorem dX7_seeOn_119 : decode cX7_seeOn 119 = .ok (.aload_n 0, 1) := by decide +kernel
theorem dX7_seeOn_120 : decode cX7_seeOn 120 = .ok (.iload 8, 2) := by decide +kernel
theorem dX7_seeOn_122 : decode cX7_seeOn 122 = .ok (.aload_n 0, 1) := by decide +kernel
theorem dX7_seeOn_123 : decode cX7_seeOn 123 = .ok (.getfield 15, 3) := by decide +kernel
theorem dX7_seeOn_126 : decode cX7_seeOn 126 = .ok (.iload 8, 2) := by decide +kernel
theorem dX7_seeOn_128 : decode cX7_seeOn 128 = .ok (.iload_n 2, 1) := by decide +kernel
theorem dX7_seeOn_129 : decode cX7_seeOn 129 = .ok (.iload 9, 2) := by decide +kernel
theorem dX7_seeOn_131 : decode cX7_seeOn 131 = .ok (.iadd, 1) := by decide +kernel
theorem dX7_seeOn_132 : decode cX7_seeOn 132 = .ok (.iload_n 3, 1) := by decide +kernel
theorem dX7_seeOn_133 : decode cX7_seeOn 133 = .ok (.iload 9, 2) := by decide +kernel
theorem dX7_seeOn_135 : decode cX7_seeOn 135 = .ok (.iadd, 1) := by decide +kernel
theorem dX7_seeOn_136 : decode cX7_seeOn 136 = .ok (.iconst 0, 1) := by decide +kernel
theorem dX7_seeOn_137 : decode cX7_seeOn 137 = .ok (.invokevirtual 80, 3) := by decide +kernel
theorem dX7_seeOn_140 : decode cX7_seeOn 140 = .ok (.invokevirtual 84, 3) := by decide +kernel
theorem dX7_seeOn_143 : decode cX7_seeOn 143 = .ok (.ifCond .eq 43, 3) := by decide +kernel
theorem dX7_seeOn_146 : decode cX7_seeOn 146 = .ok (.aload_n 0, 1) := by decide +kernel
theorem dX7_seeOn_147 : decode cX7_seeOn 147 = .ok (.iload 8, 2) := by decide +kernel
theorem dX7_seeOn_149 : decode cX7_seeOn 149 = .ok (.iload_n 2, 1) := by decide +kernel
theorem dX7_seeOn_150 : decode cX7_seeOn 150 = .ok (.iload 9, 2) := by decide +kernel
theorem dX7_seeOn_152 : decode cX7_seeOn 152 = .ok (.iadd, 1) := by decide +kernel
theorem dX7_seeOn_153 : decode cX7_seeOn 153 = .ok (.iconst 1, 1) := by decide +kernel
theorem dX7_seeOn_154 : decode cX7_seeOn 154 = .ok (.iadd, 1) := by decide +kernel
theorem dX7_seeOn_155 : decode cX7_seeOn 155 = .ok (.iload_n 3, 1) := by decide +kernel
theorem dX7_seeOn_156 : decode cX7_seeOn 156 = .ok (.iload 9, 2) := by decide +kernel
theorem dX7_seeOn_158 : decode cX7_seeOn 158 = .ok (.iadd, 1) := by decide +kernel
theorem dX7_seeOn_159 : decode cX7_seeOn 159 = .ok (.iload 4, 2) := by decide +kernel
theorem dX7_seeOn_161 : decode cX7_seeOn 161 = .ok (.iconst 1, 1) := by decide +kernel
theorem dX7_seeOn_162 : decode cX7_seeOn 162 = .ok (.iload 8, 2) := by decide +kernel
theorem dX7_seeOn_164 : decode cX7_seeOn 164 = .ok (.ishl, 1) := by decide +kernel
theorem dX7_seeOn_165 : decode cX7_seeOn 165 = .ok (.ior, 1) := by decide +kernel
theorem dX7_seeOn_166 : decode cX7_seeOn 166 = .ok (.iload 5, 2) := by decide +kernel
theorem dX7_seeOn_168 : decode cX7_seeOn 168 = .ok (.bipush 10, 2) := by decide +kernel
theorem dX7_seeOn_170 : decode cX7_seeOn 170 = .ok (.imul, 1) := by decide +kernel
theorem dX7_seeOn_171 : decode cX7_seeOn 171 = .ok (.iload 8, 2) := by decide +kernel
theorem dX7_seeOn_173 : decode cX7_seeOn 173 = .ok (.iadd, 1) := by decide +kernel
theorem dX7_seeOn_174 : decode cX7_seeOn 174 = .ok (.iload 6, 2) := by decide +kernel
theorem dX7_seeOn_176 : decode cX7_seeOn 176 = .ok (.aload_n 0, 1) := by decide +kernel
theorem dX7_seeOn_177 : decode cX7_seeOn 177 = .ok (.iload 8, 2) := by decide +kernel
theorem dX7_seeOn_179 : decode cX7_seeOn 179 = .ok (.invokevirtual 87, 3) := by decide +kernel
theorem dX7_seeOn_182 : decode cX7_seeOn 182 = .ok (.iadd, 1) := by decide +kernel
theorem dX7_seeOn_183 : decode cX7_seeOn 183 = .ok (.invokevirtual 44, 3) := by decide +kernel
theorem dX7_seeOn_186 : decode cX7_seeOn 186 = .ok (.iinc 8 1, 3) := by decide +kernel
theorem dX7_seeOn_189 : decode cX7_seeOn 189 = .ok (.goto (-119), 3) := by decide +kernel
theorem dX7_seeOn_192 : decode cX7_seeOn 192 = .ok (.return_, 1) := by decide +kernel
theorem dX7_isBetter_0 : decode cX7_isBetter 0 = .ok (.iload_n 1, 1) := by decide +kernel
theorem dX7_isBetter_1 : decode cX7_isBetter 1 = .ok (.aload_n 0, 1) := by decide +kernel
theorem dX7_isBetter_2 : decode cX7_isBetter 2 = .ok (.getfield 26, 3) := by decide +kernel
theorem dX7_isBetter_5 : decode cX7_isBetter 5 = .ok (.if_icmp .gt 19, 3) := by decide +kernel
theorem dX7_isBetter_8 : decode cX7_isBetter 8 = .ok (.iload_n 1, 1) := by decide +kernel
theorem dX7_isBetter_9 : decode cX7_isBetter 9 = .ok (.aload_n 0, 1) := by decide +kernel
theorem dX7_isBetter_10 : decode cX7_isBetter 10 = .ok (.getfield 26, 3) := by decide +kernel
theorem dX7_isBetter_13 : decode cX7_isBetter 13 = .ok (.if_icmp .ne 15, 3) := by decide +kernel
theorem dX7_isBetter_16 : decode cX7_isBetter 16 = .ok (.iload_n 2, 1) := by decide +kernel
theorem dX7_isBetter_17 : decode cX7_isBetter 17 = .ok (.aload_n 0, 1) := by decide +kernel
theorem dX7_isBetter_18 : decode cX7_isBetter 18 = .ok (.getfield 23, 3) := by decide +kernel
theorem dX7_isBetter_21 : decode cX7_isBetter 21 = .ok (.if_icmp .ge 7, 3) := by decide +kernel
theorem dX7_isBetter_24 : decode cX7_isBetter 24 = .ok (.iconst 1, 1) := by decide +kernel
theorem dX7_isBetter_25 : decode cX7_isBetter 25 = .ok (.goto 4, 3) := by decide +kernel
theorem dX7_isBetter_28 : decode cX7_isBetter 28 = .ok (.iconst 0, 1) := by decide +kernel
theorem dX7_isBetter_29 : decode cX7_isBetter 29 = .ok (.ireturn, 1) := by decide +kernel
theorem dX7_newAt_0 : decode cX7_newAt 0 = .ok (.aload_n 0, 1) := by decide +kernel
theorem dX7_newAt_1 : decode cX7_newAt 1 = .ok (.getfield 15, 3) := by decide +kernel
theorem dX7_newAt_4 : decode cX7_newAt 4 = .ok (.iload_n 1, 1) := by decide +kernel
theorem dX7_newAt_5 : decode cX7_newAt 5 = .ok (.invokevirtual 90, 3) := by decide +kernel
theorem dX7_newAt_8 : decode cX7_newAt 8 = .ok (.ifCond .ne 15, 3) := by decide +kernel
theorem dX7_newAt_11 : decode cX7_newAt 11 = .ok (.aload_n 0, 1) := by decide +kernel
theorem dX7_newAt_12 : decode cX7_newAt 12 = .ok (.getfield 9, 3) := by decide +kernel
theorem dX7_newAt_15 : decode cX7_newAt 15 = .ok (.iload_n 1, 1) := by decide +kernel
theorem dX7_newAt_16 : decode cX7_newAt 16 = .ok (.iconst 3, 1) := by decide +kernel
theorem dX7_newAt_17 : decode cX7_newAt 17 = .ok (.invokevirtual 93, 3) := by decide +kernel
theorem dX7_newAt_20 : decode cX7_newAt 20 = .ok (.goto 4, 3) := by decide +kernel
theorem dX7_newAt_23 : decode cX7_newAt 23 = .ok (.iconst 0, 1) := by decide +kernel
theorem dX7_newAt_24 : decode cX7_newAt 24 = .ok (.ireturn, 1) := by decide +kernel
theorem dX7_leftToSee_0 : decode cX7_leftToSee 0 = .ok (.iconst 0, 1) := by decide +kernel
theorem dX7_leftToSee_1 : decode cX7_leftToSee 1 = .ok (.istore_n 2, 1) := by decide +kernel
theorem dX7_leftToSee_2 : decode cX7_leftToSee 2 = .ok (.iconst 0, 1) := by decide +kernel
theorem dX7_leftToSee_3 : decode cX7_leftToSee 3 = .ok (.istore_n 3, 1) := by decide +kernel
theorem dX7_leftToSee_4 : decode cX7_leftToSee 4 = .ok (.iload_n 3, 1) := by decide +kernel
theorem dX7_leftToSee_5 : decode cX7_leftToSee 5 = .ok (.aload_n 0, 1) := by decide +kernel
theorem dX7_leftToSee_6 : decode cX7_leftToSee 6 = .ok (.getfield 9, 3) := by decide +kernel
theorem dX7_leftToSee_9 : decode cX7_leftToSee 9 = .ok (.getfield 64, 3) := by decide +kernel
theorem dX7_leftToSee_12 : decode cX7_leftToSee 12 = .ok (.if_icmp .ge 29, 3) := by decide +kernel
theorem dX7_leftToSee_15 : decode cX7_leftToSee 15 = .ok (.iload_n 2, 1) := by decide +kernel
theorem dX7_leftToSee_16 : decode cX7_leftToSee 16 = .ok (.iload_n 1, 1) := by decide +kernel
theorem dX7_leftToSee_17 : decode cX7_leftToSee 17 = .ok (.iload_n 3, 1) := by decide +kernel
theorem dX7_leftToSee_18 : decode cX7_leftToSee 18 = .ok (.invokestatic 69, 3) := by decide +kernel
theorem dX7_leftToSee_21 : decode cX7_leftToSee 21 = .ok (.ifCond .eq 7, 3) := by decide +kernel
theorem dX7_leftToSee_24 : decode cX7_leftToSee 24 = .ok (.iconst 0, 1) := by decide +kernel
theorem dX7_leftToSee_25 : decode cX7_leftToSee 25 = .ok (.goto 8, 3) := by decide +kernel
theorem dX7_leftToSee_28 : decode cX7_leftToSee 28 = .ok (.aload_n 0, 1) := by decide +kernel
theorem dX7_leftToSee_29 : decode cX7_leftToSee 29 = .ok (.iload_n 3, 1) := by decide +kernel
theorem dX7_leftToSee_30 : decode cX7_leftToSee 30 = .ok (.invokevirtual 87, 3) := by decide +kernel
theorem dX7_leftToSee_33 : decode cX7_leftToSee 33 = .ok (.iadd, 1) := by decide +kernel
theorem dX7_leftToSee_34 : decode cX7_leftToSee 34 = .ok (.istore_n 2, 1) := by decide +kernel
theorem dX7_leftToSee_35 : decode cX7_leftToSee 35 = .ok (.iinc 3 1, 3) := by decide +kernel
theorem dX7_leftToSee_38 : decode cX7_leftToSee 38 = .ok (.goto (-34), 3) := by decide +kernel
theorem dX7_leftToSee_41 : decode cX7_leftToSee 41 = .ok (.iload_n 2, 1) := by decide +kernel
theorem dX7_leftToSee_42 : decode cX7_leftToSee 42 = .ok (.ireturn, 1) := by decide +kernel
theorem dX7_leftPlaces_0 : decode cX7_leftPlaces 0 = .ok (.iconst 0, 1) := by decide +kernel
theorem dX7_leftPlaces_1 : decode cX7_leftPlaces 1 = .ok (.istore_n 2, 1) := by decide +kernel
theorem dX7_leftPlaces_2 : decode cX7_leftPlaces 2 = .ok (.iconst 0, 1) := by decide +kernel
theorem dX7_leftPlaces_3 : decode cX7_leftPlaces 3 = .ok (.istore_n 3, 1) := by decide +kernel
theorem dX7_leftPlaces_4 : decode cX7_leftPlaces 4 = .ok (.iload_n 3, 1) := by decide +kernel
theorem dX7_leftPlaces_5 : decode cX7_leftPlaces 5 = .ok (.aload_n 0, 1) := by decide +kernel
theorem dX7_leftPlaces_6 : decode cX7_leftPlaces 6 = .ok (.getfield 9, 3) := by decide +kernel
theorem dX7_leftPlaces_9 : decode cX7_leftPlaces 9 = .ok (.getfield 64, 3) := by decide +kernel
theorem dX7_leftPlaces_12 : decode cX7_leftPlaces 12 = .ok (.if_icmp .ge 33, 3) := by decide +kernel
theorem dX7_leftPlaces_15 : decode cX7_leftPlaces 15 = .ok (.iload_n 2, 1) := by decide +kernel
theorem dX7_leftPlaces_16 : decode cX7_leftPlaces 16 = .ok (.iload_n 1, 1) := by decide +kernel
theorem dX7_leftPlaces_17 : decode cX7_leftPlaces 17 = .ok (.iload_n 3, 1) := by decide +kernel
theorem dX7_leftPlaces_18 : decode cX7_leftPlaces 18 = .ok (.invokestatic 69, 3) := by decide +kernel
theorem dX7_leftPlaces_21 : decode cX7_leftPlaces 21 = .ok (.ifCond .ne 11, 3) := by decide +kernel
theorem dX7_leftPlaces_24 : decode cX7_leftPlaces 24 = .ok (.aload_n 0, 1) := by decide +kernel
theorem dX7_leftPlaces_25 : decode cX7_leftPlaces 25 = .ok (.iload_n 3, 1) := by decide +kernel
theorem dX7_leftPlaces_26 : decode cX7_leftPlaces 26 = .ok (.invokevirtual 87, 3) := by decide +kernel
theorem dX7_leftPlaces_29 : decode cX7_leftPlaces 29 = .ok (.ifCond .ne 7, 3) := by decide +kernel
theorem dX7_leftPlaces_32 : decode cX7_leftPlaces 32 = .ok (.iconst 0, 1) := by decide +kernel
theorem dX7_leftPlaces_33 : decode cX7_leftPlaces 33 = .ok (.goto 4, 3) := by decide +kernel
theorem dX7_leftPlaces_36 : decode cX7_leftPlaces 36 = .ok (.iconst 1, 1) := by decide +kernel
theorem dX7_leftPlaces_37 : decode cX7_leftPlaces 37 = .ok (.iadd, 1) := by decide +kernel
theorem dX7_leftPlaces_38 : decode cX7_leftPlaces 38 = .ok (.istore_n 2, 1) := by decide +kernel
theorem dX7_leftPlaces_39 : decode cX7_leftPlaces 39 = .ok (.iinc 3 1, 3) := by decide +kernel
theorem dX7_leftPlaces_42 : decode cX7_leftPlaces 42 = .ok (.goto (-38), 3) := by decide +kernel
theorem dX7_leftPlaces_45 : decode cX7_leftPlaces 45 = .ok (.iload_n 2, 1) := by decide +kernel
theorem dX7_leftPlaces_46 : decode cX7_leftPlaces 46 = .ok (.ireturn, 1) := by decide +kernel
theorem dX7_isBorneBy_0 : decode cX7_isBorneBy 0 = .ok (.aload_n 0, 1) := by decide +kernel
theorem dX7_isBorneBy_1 : decode cX7_isBorneBy 1 = .ok (.getfield 15, 3) := by decide +kernel
theorem dX7_isBorneBy_4 : decode cX7_isBorneBy 4 = .ok (.iload_n 1, 1) := by decide +kernel
theorem dX7_isBorneBy_5 : decode cX7_isBorneBy 5 = .ok (.iconst 0, 1) := by decide +kernel
theorem dX7_isBorneBy_6 : decode cX7_isBorneBy 6 = .ok (.invokevirtual 96, 3) := by decide +kernel
theorem dX7_isBorneBy_9 : decode cX7_isBorneBy 9 = .ok (.ifCond .ne 15, 3) := by decide +kernel
theorem dX7_isBorneBy_12 : decode cX7_isBorneBy 12 = .ok (.aload_n 0, 1) := by decide +kernel
theorem dX7_isBorneBy_13 : decode cX7_isBorneBy 13 = .ok (.getfield 15, 3) := by decide +kernel
theorem dX7_isBorneBy_16 : decode cX7_isBorneBy 16 = .ok (.iload_n 1, 1) := by decide +kernel
theorem dX7_isBorneBy_17 : decode cX7_isBorneBy 17 = .ok (.iload_n 2, 1) := by decide +kernel
theorem dX7_isBorneBy_18 : decode cX7_isBorneBy 18 = .ok (.invokevirtual 96, 3) := by decide +kernel
theorem dX7_isBorneBy_21 : decode cX7_isBorneBy 21 = .ok (.ifCond .ne 7, 3) := by decide +kernel
theorem dX7_isBorneBy_24 : decode cX7_isBorneBy 24 = .ok (.iconst 1, 1) := by decide +kernel
theorem dX7_isBorneBy_25 : decode cX7_isBorneBy 25 = .ok (.goto 4, 3) := by decide +kernel
theorem dX7_isBorneBy_28 : decode cX7_isBorneBy 28 = .ok (.iconst 0, 1) := by decide +kernel
theorem dX7_isBorneBy_29 : decode cX7_isBorneBy 29 = .ok (.ireturn, 1) := by decide +kernel
theorem dX7_troubleLeast_0 : decode cX7_troubleLeast 0 = .ok (.aload_n 0, 1) := by decide +kernel
theorem dX7_troubleLeast_1 : decode cX7_troubleLeast 1 = .ok (.iconst (-1), 1) := by decide +kernel
theorem dX7_troubleLeast_2 : decode cX7_troubleLeast 2 = .ok (.putfield 19, 3) := by decide +kernel
theorem dX7_troubleLeast_5 : decode cX7_troubleLeast 5 = .ok (.aload_n 0, 1) := by decide +kernel
theorem dX7_troubleLeast_6 : decode cX7_troubleLeast 6 = .ok (.sipush 1000, 3) := by decide +kernel
theorem dX7_troubleLeast_9 : decode cX7_troubleLeast 9 = .ok (.putfield 26, 3) := by decide +kernel
theorem dX7_troubleLeast_12 : decode cX7_troubleLeast 12 = .ok (.aload_n 0, 1) := by decide +kernel
theorem dX7_troubleLeast_13 : decode cX7_troubleLeast 13 = .ok (.aload_n 0, 1) := by decide +kernel
theorem dX7_troubleLeast_14 : decode cX7_troubleLeast 14 = .ok (.getfield 15, 3) := by decide +kernel
theorem dX7_troubleLeast_17 : decode cX7_troubleLeast 17 = .ok (.invokevirtual 38, 3) := by decide +kernel
theorem dX7_troubleLeast_20 : decode cX7_troubleLeast 20 = .ok (.aload_n 0, 1) := by decide +kernel
theorem dX7_troubleLeast_21 : decode cX7_troubleLeast 21 = .ok (.getfield 15, 3) := by decide +kernel
theorem dX7_troubleLeast_24 : decode cX7_troubleLeast 24 = .ok (.invokevirtual 29, 3) := by decide +kernel
theorem dX7_troubleLeast_27 : decode cX7_troubleLeast 27 = .ok (.aload_n 0, 1) := by decide +kernel
theorem dX7_troubleLeast_28 : decode cX7_troubleLeast 28 = .ok (.getfield 15, 3) := by decide +kernel
theorem dX7_troubleLeast_31 : decode cX7_troubleLeast 31 = .ok (.invokevirtual 41, 3) := by decide +kernel
theorem dX7_troubleLeast_34 : decode cX7_troubleLeast 34 = .ok (.iload_n 1, 1) := by decide +kernel
theorem dX7_troubleLeast_35 : decode cX7_troubleLeast 35 = .ok (.iconst 0, 1) := by decide +kernel
theorem dX7_troubleLeast_36 : decode cX7_troubleLeast 36 = .ok (.iconst 0, 1) := by decide +kernel
theorem dX7_troubleLeast_37 : decode cX7_troubleLeast 37 = .ok (.invokevirtual 99, 3) := by decide +kernel
theorem dX7_troubleLeast_40 : decode cX7_troubleLeast 40 = .ok (.return_, 1) := by decide +kernel
theorem dX7_troubleOn_0 : decode cX7_troubleOn 0 = .ok (.iload 6, 2) := by decide +kernel
theorem dX7_troubleOn_2 : decode cX7_troubleOn 2 = .ok (.aload_n 0, 1) := by decide +kernel
theorem dX7_troubleOn_3 : decode cX7_troubleOn 3 = .ok (.getfield 26, 3) := by decide +kernel
theorem dX7_troubleOn_6 : decode cX7_troubleOn 6 = .ok (.if_icmp .lt 4, 3) := by decide +kernel
theorem dX7_troubleOn_9 : decode cX7_troubleOn 9 = .ok (.return_, 1) := by decide +kernel
theorem dX7_troubleOn_10 : decode cX7_troubleOn 10 = .ok (.iload 4, 2) := by decide +kernel
theorem dX7_troubleOn_12 : decode cX7_troubleOn 12 = .ok (.ifCond .ne 16, 3) := by decide +kernel
theorem dX7_troubleOn_15 : decode cX7_troubleOn 15 = .ok (.aload_n 0, 1) := by decide +kernel
theorem dX7_troubleOn_16 : decode cX7_troubleOn 16 = .ok (.iload 5, 2) := by decide +kernel
theorem dX7_troubleOn_18 : decode cX7_troubleOn 18 = .ok (.putfield 19, 3) := by decide +kernel
theorem dX7_troubleOn_21 : decode cX7_troubleOn 21 = .ok (.aload_n 0, 1) := by decide +kernel
theorem dX7_troubleOn_22 : decode cX7_troubleOn 22 = .ok (.iload 6, 2) := by decide +kernel
theorem dX7_troubleOn_24 : decode cX7_troubleOn 24 = .ok (.putfield 26, 3) := by decide +kernel
theorem dX7_troubleOn_27 : decode cX7_troubleOn 27 = .ok (.return_, 1) := by decide +kernel
theorem dX7_troubleOn_28 : decode cX7_troubleOn 28 = .ok (.iconst 0, 1) := by decide +kernel
theorem dX7_troubleOn_29 : decode cX7_troubleOn 29 = .ok (.istore 7, 2) := by decide +kernel
theorem dX7_troubleOn_31 : decode cX7_troubleOn 31 = .ok (.iload 7, 2) := by decide +kernel
theorem dX7_troubleOn_33 : decode cX7_troubleOn 33 = .ok (.aload_n 0, 1) := by decide +kernel
theorem dX7_troubleOn_34 : decode cX7_troubleOn 34 = .ok (.getfield 9, 3) := by decide +kernel
theorem dX7_troubleOn_37 : decode cX7_troubleOn 37 = .ok (.getfield 64, 3) := by decide +kernel
theorem dX7_troubleOn_40 : decode cX7_troubleOn 40 = .ok (.if_icmp .ge 104, 3) := by decide +kernel
theorem dX7_troubleOn_43 : decode cX7_troubleOn 43 = .ok (.iload 4, 2) := by decide +kernel
theorem dX7_troubleOn_45 : decode cX7_troubleOn 45 = .ok (.iload 7, 2) := by decide +kernel
theorem dX7_troubleOn_47 : decode cX7_troubleOn 47 = .ok (.invokestatic 69, 3) := by decide +kernel
theorem dX7_troubleOn_50 : decode cX7_troubleOn 50 = .ok (.ifCond .eq 88, 3) := by decide +kernel
theorem dX7_troubleOn_53 : decode cX7_troubleOn 53 = .ok (.aload_n 0, 1) := by decide +kernel
theorem dX7_troubleOn_54 : decode cX7_troubleOn 54 = .ok (.getfield 15, 3) := by decide +kernel
theorem dX7_troubleOn_57 : decode cX7_troubleOn 57 = .ok (.iload_n 1, 1) := by decide +kernel
theorem dX7_troubleOn_58 : decode cX7_troubleOn 58 = .ok (.iload_n 2, 1) := by decide +kernel
theorem dX7_troubleOn_59 : decode cX7_troubleOn 59 = .ok (.iload_n 3, 1) := by decide +kernel
theorem dX7_troubleOn_60 : decode cX7_troubleOn 60 = .ok (.iload 7, 2) := by decide +kernel
theorem dX7_troubleOn_62 : decode cX7_troubleOn 62 = .ok (.invokevirtual 72, 3) := by decide +kernel
theorem dX7_troubleOn_65 : decode cX7_troubleOn 65 = .ok (.ifCond .eq 73, 3) := by decide +kernel
theorem dX7_troubleOn_68 : decode cX7_troubleOn 68 = .ok (.aload_n 0, 1) := by decide +kernel
theorem dX7_troubleOn_69 : decode cX7_troubleOn 69 = .ok (.getfield 9, 3) := by decide +kernel
theorem dX7_troubleOn_72 : decode cX7_troubleOn 72 = .ok (.iload_n 1, 1) := by decide +kernel
theorem dX7_troubleOn_73 : decode cX7_troubleOn 73 = .ok (.iload 7, 2) := by decide +kernel
theorem dX7_troubleOn_75 : decode cX7_troubleOn 75 = .ok (.invokevirtual 76, 3) := by decide +kernel
theorem dX7_troubleOn_78 : decode cX7_troubleOn 78 = .ok (.istore 8, 2) := by decide +kernel
theorem dX7_troubleOn_80 : decode cX7_troubleOn 80 = .ok (.aload_n 0, 1) := by decide +kernel
theorem dX7_troubleOn_81 : decode cX7_troubleOn 81 = .ok (.getfield 15, 3) := by decide +kernel
theorem dX7_troubleOn_84 : decode cX7_troubleOn 84 = .ok (.iload 7, 2) := by decide +kernel
theorem dX7_troubleOn_86 : decode cX7_troubleOn 86 = .ok (.iload_n 2, 1) := by decide +kernel
theorem dX7_troubleOn_87 : decode cX7_troubleOn 87 = .ok (.iload 8, 2) := by decide +kernel
theorem dX7_troubleOn_89 : decode cX7_troubleOn 89 = .ok (.iadd, 1) := by decide +kernel
theorem dX7_troubleOn_90 : decode cX7_troubleOn 90 = .ok (.iload_n 3, 1) := by decide +kernel
theorem dX7_troubleOn_91 : decode cX7_troubleOn 91 = .ok (.iload 8, 2) := by decide +kernel
theorem dX7_troubleOn_93 : decode cX7_troubleOn 93 = .ok (.iadd, 1) := by decide +kernel
theorem dX7_troubleOn_94 : decode cX7_troubleOn 94 = .ok (.iconst 0, 1) := by decide +kernel
theorem dX7_troubleOn_95 : decode cX7_troubleOn 95 = .ok (.invokevirtual 80, 3) := by decide +kernel
theorem dX7_troubleOn_98 : decode cX7_troubleOn 98 = .ok (.istore 9, 2) := by decide +kernel
theorem dX7_troubleOn_100 : decode cX7_troubleOn 100 = .ok (.aload_n 0, 1) := by decide +kernel
theorem dX7_troubleOn_101 : decode cX7_troubleOn 101 = .ok (.iload 7, 2) := by decide +kernel
theorem dX7_troubleOn_103 : decode cX7_troubleOn 103 = .ok (.iload_n 2, 1) := by decide +kernel
theorem dX7_troubleOn_104 : decode cX7_troubleOn 104 = .ok (.iload 8, 2) := by decide +kernel
theorem dX7_troubleOn_106 : decode cX7_troubleOn 106 = .ok (.iadd, 1) := by decide +kernel
theorem dX7_troubleOn_107 : decode cX7_troubleOn 107 = .ok (.iconst 1, 1) := by decide +kernel
theorem dX7_troubleOn_108 : decode cX7_troubleOn 108 = .ok (.iadd, 1) := by decide +kernel
theorem dX7_troubleOn_109 : decode cX7_troubleOn 109 = .ok (.iload_n 3, 1) := by decide +kernel
theorem dX7_troubleOn_110 : decode cX7_troubleOn 110 = .ok (.iload 8, 2) := by decide +kernel
theorem dX7_troubleOn_112 : decode cX7_troubleOn 112 = .ok (.iadd, 1) := by decide +kernel
theorem dX7_troubleOn_113 : decode cX7_troubleOn 113 = .ok (.iload 4, 2) := by decide +kernel
theorem dX7_troubleOn_115 : decode cX7_troubleOn 115 = .ok (.iconst 1, 1) := by decide +kernel
theorem dX7_troubleOn_116 : decode cX7_troubleOn 116 = .ok (.iload 7, 2) := by decide +kernel
theorem dX7_troubleOn_118 : decode cX7_troubleOn 118 = .ok (.ishl, 1) := by decide +kernel
theorem dX7_troubleOn_119 : decode cX7_troubleOn 119 = .ok (.iconst (-1), 1) := by decide +kernel
theorem dX7_troubleOn_120 : decode cX7_troubleOn 120 = .ok (.ixor, 1) := by decide +kernel
theorem dX7_troubleOn_121 : decode cX7_troubleOn 121 = .ok (.iand, 1) := by decide +kernel
theorem dX7_troubleOn_122 : decode cX7_troubleOn 122 = .ok (.iload 5, 2) := by decide +kernel
theorem dX7_troubleOn_124 : decode cX7_troubleOn 124 = .ok (.bipush 10, 2) := by decide +kernel
theorem dX7_troubleOn_126 : decode cX7_troubleOn 126 = .ok (.imul, 1) := by decide +kernel
theorem dX7_troubleOn_127 : decode cX7_troubleOn 127 = .ok (.iload 7, 2) := by decide +kernel
theorem dX7_troubleOn_129 : decode cX7_troubleOn 129 = .ok (.iadd, 1) := by decide +kernel
theorem dX7_troubleOn_130 : decode cX7_troubleOn 130 = .ok (.iload 6, 2) := by decide +kernel
theorem dX7_troubleOn_132 : decode cX7_troubleOn 132 = .ok (.iload 9, 2) := by decide +kernel
theorem dX7_troubleOn_134 : decode cX7_troubleOn 134 = .ok (.iadd, 1) := by decide +kernel
theorem dX7_troubleOn_135 : decode cX7_troubleOn 135 = .ok (.invokevirtual 99, 3) := by decide +kernel
theorem dX7_troubleOn_138 : decode cX7_troubleOn 138 = .ok (.iinc 7 1, 3) := by decide +kernel
theorem dX7_troubleOn_141 : decode cX7_troubleOn 141 = .ok (.goto (-110), 3) := by decide +kernel
theorem dX7_troubleOn_144 : decode cX7_troubleOn 144 = .ok (.return_, 1) := by decide +kernel
theorem dX7_isBorne_0 : decode cX7_isBorne 0 = .ok (.aload_n 0, 1) := by decide +kernel
theorem dX7_isBorne_1 : decode cX7_isBorne 1 = .ok (.getfield 15, 3) := by decide +kernel
theorem dX7_isBorne_4 : decode cX7_isBorne 4 = .ok (.invokevirtual 38, 3) := by decide +kernel
theorem dX7_isBorne_7 : decode cX7_isBorne 7 = .ok (.istore_n 3, 1) := by decide +kernel
theorem dX7_isBorne_8 : decode cX7_isBorne 8 = .ok (.aload_n 0, 1) := by decide +kernel
theorem dX7_isBorne_9 : decode cX7_isBorne 9 = .ok (.getfield 15, 3) := by decide +kernel
theorem dX7_isBorne_12 : decode cX7_isBorne 12 = .ok (.invokevirtual 29, 3) := by decide +kernel
theorem dX7_isBorne_15 : decode cX7_isBorne 15 = .ok (.istore 4, 2) := by decide +kernel
theorem dX7_isBorne_17 : decode cX7_isBorne 17 = .ok (.aload_n 0, 1) := by decide +kernel
theorem dX7_isBorne_18 : decode cX7_isBorne 18 = .ok (.getfield 15, 3) := by decide +kernel
theorem dX7_isBorne_21 : decode cX7_isBorne 21 = .ok (.invokevirtual 41, 3) := by decide +kernel
theorem dX7_isBorne_24 : decode cX7_isBorne 24 = .ok (.istore 5, 2) := by decide +kernel
theorem dX7_isBorne_26 : decode cX7_isBorne 26 = .ok (.iconst 0, 1) := by decide +kernel
theorem dX7_isBorne_27 : decode cX7_isBorne 27 = .ok (.istore 6, 2) := by decide +kernel
theorem dX7_isBorne_29 : decode cX7_isBorne 29 = .ok (.iload 6, 2) := by decide +kernel
theorem dX7_isBorne_31 : decode cX7_isBorne 31 = .ok (.aload_n 0, 1) := by decide +kernel
theorem dX7_isBorne_32 : decode cX7_isBorne 32 = .ok (.getfield 9, 3) := by decide +kernel
theorem dX7_isBorne_35 : decode cX7_isBorne 35 = .ok (.getfield 64, 3) := by decide +kernel
theorem dX7_isBorne_38 : decode cX7_isBorne 38 = .ok (.if_icmp .ge 100, 3) := by decide +kernel
theorem dX7_isBorne_41 : decode cX7_isBorne 41 = .ok (.iconst 0, 1) := by decide +kernel
theorem dX7_isBorne_42 : decode cX7_isBorne 42 = .ok (.istore 7, 2) := by decide +kernel
theorem dX7_isBorne_44 : decode cX7_isBorne 44 = .ok (.iload_n 1, 1) := by decide +kernel
theorem dX7_isBorne_45 : decode cX7_isBorne 45 = .ok (.iload 6, 2) := by decide +kernel
theorem dX7_isBorne_47 : decode cX7_isBorne 47 = .ok (.invokestatic 69, 3) := by decide +kernel
theorem dX7_isBorne_50 : decode cX7_isBorne 50 = .ok (.ifCond .eq 66, 3) := by decide +kernel
theorem dX7_isBorne_53 : decode cX7_isBorne 53 = .ok (.aload_n 0, 1) := by decide +kernel
theorem dX7_isBorne_54 : decode cX7_isBorne 54 = .ok (.getfield 15, 3) := by decide +kernel
theorem dX7_isBorne_57 : decode cX7_isBorne 57 = .ok (.iload_n 3, 1) := by decide +kernel
theorem dX7_isBorne_58 : decode cX7_isBorne 58 = .ok (.iload 4, 2) := by decide +kernel
theorem dX7_isBorne_60 : decode cX7_isBorne 60 = .ok (.iload 5, 2) := by decide +kernel
theorem dX7_isBorne_62 : decode cX7_isBorne 62 = .ok (.iload 6, 2) := by decide +kernel
theorem dX7_isBorne_64 : decode cX7_isBorne 64 = .ok (.invokevirtual 72, 3) := by decide +kernel
theorem dX7_isBorne_67 : decode cX7_isBorne 67 = .ok (.ifCond .eq 49, 3) := by decide +kernel
theorem dX7_isBorne_70 : decode cX7_isBorne 70 = .ok (.aload_n 0, 1) := by decide +kernel
theorem dX7_isBorne_71 : decode cX7_isBorne 71 = .ok (.getfield 9, 3) := by decide +kernel
theorem dX7_isBorne_74 : decode cX7_isBorne 74 = .ok (.iload_n 3, 1) := by decide +kernel
theorem dX7_isBorne_75 : decode cX7_isBorne 75 = .ok (.iload 6, 2) := by decide +kernel
theorem dX7_isBorne_77 : decode cX7_isBorne 77 = .ok (.invokevirtual 76, 3) := by decide +kernel
theorem dX7_isBorne_80 : decode cX7_isBorne 80 = .ok (.istore 8, 2) := by decide +kernel
theorem dX7_isBorne_82 : decode cX7_isBorne 82 = .ok (.iload 4, 2) := by decide +kernel
theorem dX7_isBorne_84 : decode cX7_isBorne 84 = .ok (.iload 8, 2) := by decide +kernel
theorem dX7_isBorne_86 : decode cX7_isBorne 86 = .ok (.iconst 1, 1) := by decide +kernel
theorem dX7_isBorne_87 : decode cX7_isBorne 87 = .ok (.iadd, 1) := by decide +kernel
theorem dX7_isBorne_88 : decode cX7_isBorne 88 = .ok (.iadd, 1) := by decide +kernel
theorem dX7_isBorne_89 : decode cX7_isBorne 89 = .ok (.istore 4, 2) := by decide +kernel
theorem dX7_isBorne_91 : decode cX7_isBorne 91 = .ok (.iload 5, 2) := by decide +kernel
theorem dX7_isBorne_93 : decode cX7_isBorne 93 = .ok (.iload 8, 2) := by decide +kernel
theorem dX7_isBorne_95 : decode cX7_isBorne 95 = .ok (.iadd, 1) := by decide +kernel
theorem dX7_isBorne_96 : decode cX7_isBorne 96 = .ok (.istore 5, 2) := by decide +kernel
theorem dX7_isBorne_98 : decode cX7_isBorne 98 = .ok (.iload 6, 2) := by decide +kernel
theorem dX7_isBorne_100 : decode cX7_isBorne 100 = .ok (.istore_n 3, 1) := by decide +kernel
theorem dX7_isBorne_101 : decode cX7_isBorne 101 = .ok (.aload_n 0, 1) := by decide +kernel
theorem dX7_isBorne_102 : decode cX7_isBorne 102 = .ok (.getfield 15, 3) := by decide +kernel
theorem dX7_isBorne_105 : decode cX7_isBorne 105 = .ok (.iload 6, 2) := by decide +kernel
theorem dX7_isBorne_107 : decode cX7_isBorne 107 = .ok (.invokevirtual 90, 3) := by decide +kernel
theorem dX7_isBorne_110 : decode cX7_isBorne 110 = .ok (.iload_n 2, 1) := by decide +kernel
theorem dX7_isBorne_111 : decode cX7_isBorne 111 = .ok (.invokestatic 102, 3) := by decide +kernel
theorem dX7_isBorne_114 : decode cX7_isBorne 114 = .ok (.istore 7, 2) := by decide +kernel
theorem dX7_isBorne_116 : decode cX7_isBorne 116 = .ok (.aload_n 0, 1) := by decide +kernel
theorem dX7_isBorne_117 : decode cX7_isBorne 117 = .ok (.getfield 15, 3) := by decide +kernel
theorem dX7_isBorne_120 : decode cX7_isBorne 120 = .ok (.iload 6, 2) := by decide +kernel
theorem dX7_isBorne_122 : decode cX7_isBorne 122 = .ok (.iload 7, 2) := by decide +kernel
theorem dX7_isBorne_124 : decode cX7_isBorne 124 = .ok (.invokevirtual 96, 3) := by decide +kernel
theorem dX7_isBorne_127 : decode cX7_isBorne 127 = .ok (.ifCond .eq 5, 3) := by decide +kernel
theorem dX7_isBorne_130 : decode cX7_isBorne 130 = .ok (.iconst 0, 1) := by decide +kernel
theorem dX7_isBorne_131 : decode cX7_isBorne 131 = .ok (.ireturn, 1) := by decide +kernel
theorem dX7_isBorne_132 : decode cX7_isBorne 132 = .ok (.iinc 6 1, 3) := by decide +kernel
theorem dX7_isBorne_135 : decode cX7_isBorne 135 = .ok (.goto (-106), 3) := by decide +kernel
theorem dX7_isBorne_138 : decode cX7_isBorne 138 = .ok (.iconst 1, 1) := by decide +kernel
theorem dX7_isBorne_139 : decode cX7_isBorne 139 = .ok (.ireturn, 1) := by decide +kernel
theorem dX8_init_0 : decode cX8_init 0 = .ok (.aload_n 0, 1) := by decide +kernel
theorem dX8_init_1 : decode cX8_init 1 = .ok (.invokespecial 5, 3) := by decide +kernel
theorem dX8_init_4 : decode cX8_init 4 = .ok (.aload_n 0, 1) := by decide +kernel
theorem dX8_init_5 : decode cX8_init 5 = .ok (.bipush 28, 2) := by decide +kernel
theorem dX8_init_7 : decode cX8_init 7 = .ok (.newarray .int, 2) := by decide +kernel
theorem dX8_init_9 : decode cX8_init 9 = .ok (.putfield 11, 3) := by decide +kernel
theorem dX8_init_12 : decode cX8_init 12 = .ok (.aload_n 0, 1) := by decide +kernel
theorem dX8_init_13 : decode cX8_init 13 = .ok (.aload_n 1, 1) := by decide +kernel
theorem dX8_init_14 : decode cX8_init 14 = .ok (.putfield 15, 3) := by decide +kernel
theorem dX8_init_17 : decode cX8_init 17 = .ok (.aload_n 0, 1) := by decide +kernel
theorem dX8_init_18 : decode cX8_init 18 = .ok (.aload_n 2, 1) := by decide +kernel
theorem dX8_init_19 : decode cX8_init 19 = .ok (.putfield 19, 3) := by decide +kernel
theorem dX8_init_22 : decode cX8_init 22 = .ok (.aload_n 0, 1) := by decide +kernel
theorem dX8_init_23 : decode cX8_init 23 = .ok (.getfield 11, 3) := by decide +kernel
theorem dX8_init_26 : decode cX8_init 26 = .ok (.iconst 0, 1) := by decide +kernel
theorem dX8_init_27 : decode cX8_init 27 = .ok (.iconst (-1), 1) := by decide +kernel
theorem dX8_init_28 : decode cX8_init 28 = .ok (.iastore, 1) := by decide +kernel
theorem dX8_init_29 : decode cX8_init 29 = .ok (.return_, 1) := by decide +kernel
theorem dX8_beginCity_0 : decode cX8_beginCity 0 = .ok (.iconst 0, 1) := by decide +kernel
theorem dX8_beginCity_1 : decode cX8_beginCity 1 = .ok (.istore_n 1, 1) := by decide +kernel
theorem dX8_beginCity_2 : decode cX8_beginCity 2 = .ok (.iload_n 1, 1) := by decide +kernel
theorem dX8_beginCity_3 : decode cX8_beginCity 3 = .ok (.bipush 28, 2) := by decide +kernel
theorem dX8_beginCity_5 : decode cX8_beginCity 5 = .ok (.if_icmp .ge 16, 3) := by decide +kernel
theorem dX8_beginCity_8 : decode cX8_beginCity 8 = .ok (.aload_n 0, 1) := by decide +kernel
theorem dX8_beginCity_9 : decode cX8_beginCity 9 = .ok (.getfield 11, 3) := by decide +kernel
theorem dX8_beginCity_12 : decode cX8_beginCity 12 = .ok (.iload_n 1, 1) := by decide +kernel
theorem dX8_beginCity_13 : decode cX8_beginCity 13 = .ok (.iconst 0, 1) := by decide +kernel
theorem dX8_beginCity_14 : decode cX8_beginCity 14 = .ok (.iastore, 1) := by decide +kernel
theorem dX8_beginCity_15 : decode cX8_beginCity 15 = .ok (.iinc 1 1, 3) := by decide +kernel
theorem dX8_beginCity_18 : decode cX8_beginCity 18 = .ok (.goto (-16), 3) := by decide +kernel
theorem dX8_beginCity_21 : decode cX8_beginCity 21 = .ok (.aload_n 0, 1) := by decide +kernel
theorem dX8_beginCity_22 : decode cX8_beginCity 22 = .ok (.getfield 11, 3) := by decide +kernel
theorem dX8_beginCity_25 : decode cX8_beginCity 25 = .ok (.iconst 0, 1) := by decide +kernel
theorem dX8_beginCity_26 : decode cX8_beginCity 26 = .ok (.iconst (-1), 1) := by decide +kernel
theorem dX8_beginCity_27 : decode cX8_beginCity 27 = .ok (.iastore, 1) := by decide +kernel
theorem dX8_beginCity_28 : decode cX8_beginCity 28 = .ok (.iconst 0, 1) := by decide +kernel
theorem dX8_beginCity_29 : decode cX8_beginCity 29 = .ok (.istore_n 1, 1) := by decide +kernel
theorem dX8_beginCity_30 : decode cX8_beginCity 30 = .ok (.iload_n 1, 1) := by decide +kernel
theorem dX8_beginCity_31 : decode cX8_beginCity 31 = .ok (.bipush 7, 2) := by decide +kernel
theorem dX8_beginCity_33 : decode cX8_beginCity 33 = .ok (.if_icmp .ge 27, 3) := by decide +kernel
theorem dX8_beginCity_36 : decode cX8_beginCity 36 = .ok (.aload_n 0, 1) := by decide +kernel
theorem dX8_beginCity_37 : decode cX8_beginCity 37 = .ok (.getfield 11, 3) := by decide +kernel
theorem dX8_beginCity_40 : decode cX8_beginCity 40 = .ok (.bipush 21, 2) := by decide +kernel
theorem dX8_beginCity_42 : decode cX8_beginCity 42 = .ok (.iload_n 1, 1) := by decide +kernel
theorem dX8_beginCity_43 : decode cX8_beginCity 43 = .ok (.iadd, 1) := by decide +kernel
theorem dX8_beginCity_44 : decode cX8_beginCity 44 = .ok (.aload_n 0, 1) := by decide +kernel
theorem dX8_beginCity_45 : decode cX8_beginCity 45 = .ok (.getfield 15, 3) := by decide +kernel
theorem dX8_beginCity_48 : decode cX8_beginCity 48 = .ok (.iload_n 1, 1) := by decide +kernel
theorem dX8_beginCity_49 : decode cX8_beginCity 49 = .ok (.iconst 4, 1) := by decide +kernel
theorem dX8_beginCity_50 : decode cX8_beginCity 50 = .ok (.invokevirtual 23, 3) := by decide +kernel
theorem dX8_beginCity_53 : decode cX8_beginCity 53 = .ok (.iastore, 1) := by decide +kernel
theorem dX8_beginCity_54 : decode cX8_beginCity 54 = .ok (.iinc 1 1, 3) := by decide +kernel
theorem dX8_beginCity_57 : decode cX8_beginCity 57 = .ok (.goto (-27), 3) := by decide +kernel
theorem dX8_beginCity_60 : decode cX8_beginCity 60 = .ok (.return_, 1) := by decide +kernel
theorem dX8_saveTo_0 : decode cX8_saveTo 0 = .ok (.iload_n 2, 1) := by decide +kernel
theorem dX8_saveTo_1 : decode cX8_saveTo 1 = .ok (.ifCond .lt 24, 3) := by decide +kernel
theorem dX8_saveTo_4 : decode cX8_saveTo 4 = .ok (.iload_n 2, 1) := by decide +kernel
theorem dX8_saveTo_5 : decode cX8_saveTo 5 = .ok (.bipush 28, 2) := by decide +kernel
theorem dX8_saveTo_7 : decode cX8_saveTo 7 = .ok (.iadd, 1) := by decide +kernel
theorem dX8_saveTo_8 : decode cX8_saveTo 8 = .ok (.aload_n 1, 1) := by decide +kernel
theorem dX8_saveTo_9 : decode cX8_saveTo 9 = .ok (.arraylength, 1) := by decide +kernel
theorem dX8_saveTo_10 : decode cX8_saveTo 10 = .ok (.if_icmp .gt 15, 3) := by decide +kernel
theorem dX8_saveTo_13 : decode cX8_saveTo 13 = .ok (.aload_n 0, 1) := by decide +kernel
theorem dX8_saveTo_14 : decode cX8_saveTo 14 = .ok (.getfield 11, 3) := by decide +kernel
theorem dX8_saveTo_17 : decode cX8_saveTo 17 = .ok (.iconst 0, 1) := by decide +kernel
theorem dX8_saveTo_18 : decode cX8_saveTo 18 = .ok (.aload_n 1, 1) := by decide +kernel
theorem dX8_saveTo_19 : decode cX8_saveTo 19 = .ok (.iload_n 2, 1) := by decide +kernel
theorem dX8_saveTo_20 : decode cX8_saveTo 20 = .ok (.bipush 28, 2) := by decide +kernel
theorem dX8_saveTo_22 : decode cX8_saveTo 22 = .ok (.invokestatic 29, 3) := by decide +kernel
theorem dX8_saveTo_25 : decode cX8_saveTo 25 = .ok (.return_, 1) := by decide +kernel
theorem dX8_loadFrom_0 : decode cX8_loadFrom 0 = .ok (.iload_n 2, 1) := by decide +kernel
theorem dX8_loadFrom_1 : decode cX8_loadFrom 1 = .ok (.ifCond .lt 24, 3) := by decide +kernel
theorem dX8_loadFrom_4 : decode cX8_loadFrom 4 = .ok (.iload_n 2, 1) := by decide +kernel
theorem dX8_loadFrom_5 : decode cX8_loadFrom 5 = .ok (.bipush 28, 2) := by decide +kernel
theorem dX8_loadFrom_7 : decode cX8_loadFrom 7 = .ok (.iadd, 1) := by decide +kernel
theorem dX8_loadFrom_8 : decode cX8_loadFrom 8 = .ok (.aload_n 1, 1) := by decide +kernel
theorem dX8_loadFrom_9 : decode cX8_loadFrom 9 = .ok (.arraylength, 1) := by decide +kernel
theorem dX8_loadFrom_10 : decode cX8_loadFrom 10 = .ok (.if_icmp .gt 15, 3) := by decide +kernel
theorem dX8_loadFrom_13 : decode cX8_loadFrom 13 = .ok (.aload_n 1, 1) := by decide +kernel
theorem dX8_loadFrom_14 : decode cX8_loadFrom 14 = .ok (.iload_n 2, 1) := by decide +kernel
theorem dX8_loadFrom_15 : decode cX8_loadFrom 15 = .ok (.aload_n 0, 1) := by decide +kernel
theorem dX8_loadFrom_16 : decode cX8_loadFrom 16 = .ok (.getfield 11, 3) := by decide +kernel
theorem dX8_loadFrom_19 : decode cX8_loadFrom 19 = .ok (.iconst 0, 1) := by decide +kernel
theorem dX8_loadFrom_20 : decode cX8_loadFrom 20 = .ok (.bipush 28, 2) := by decide +kernel
theorem dX8_loadFrom_22 : decode cX8_loadFrom 22 = .ok (.invokestatic 29, 3) := by decide +kernel
theorem dX8_loadFrom_25 : decode cX8_loadFrom 25 = .ok (.return_, 1) := by decide +kernel
theorem dX8_place_0 : decode cX8_place 0 = .ok (.aload_n 0, 1) := by decide +kernel
theorem dX8_place_1 : decode cX8_place 1 = .ok (.getfield 11, 3) := by decide +kernel
theorem dX8_place_4 : decode cX8_place 4 = .ok (.iconst 0, 1) := by decide +kernel
theorem dX8_place_5 : decode cX8_place 5 = .ok (.iaload, 1) := by decide +kernel
theorem dX8_place_6 : decode cX8_place 6 = .ok (.ireturn, 1) := by decide +kernel
theorem dX8_hour_0 : decode cX8_hour 0 = .ok (.aload_n 0, 1) := by decide +kernel
theorem dX8_hour_1 : decode cX8_hour 1 = .ok (.getfield 11, 3) := by decide +kernel
theorem dX8_hour_4 : decode cX8_hour 4 = .ok (.iconst 1, 1) := by decide +kernel
theorem dX8_hour_5 : decode cX8_hour 5 = .ok (.iaload, 1) := by decide +kernel
theorem dX8_hour_6 : decode cX8_hour 6 = .ok (.ireturn, 1) := by decide +kernel
theorem dX8_tired_0 : decode cX8_tired 0 = .ok (.aload_n 0, 1) := by decide +kernel
theorem dX8_tired_1 : decode cX8_tired 1 = .ok (.getfield 11, 3) := by decide +kernel
theorem dX8_tired_4 : decode cX8_tired 4 = .ok (.iconst 2, 1) := by decide +kernel
theorem dX8_tired_5 : decode cX8_tired 5 = .ok (.iaload, 1) := by decide +kernel
theorem dX8_tired_6 : decode cX8_tired 6 = .ok (.ireturn, 1) := by decide +kernel
theorem dX8_seenToday_0 : decode cX8_seenToday 0 = .ok (.aload_n 0, 1) := by decide +kernel
theorem dX8_seenToday_1 : decode cX8_seenToday 1 = .ok (.getfield 11, 3) := by decide +kernel
theorem dX8_seenToday_4 : decode cX8_seenToday 4 = .ok (.iconst 3, 1) := by decide +kernel
theorem dX8_seenToday_5 : decode cX8_seenToday 5 = .ok (.iaload, 1) := by decide +kernel
theorem dX8_seenToday_6 : decode cX8_seenToday 6 = .ok (.ireturn, 1) := by decide +kernel
theorem dX8_seenInAll_0 : decode cX8_seenInAll 0 = .ok (.aload_n 0, 1) := by decide +kernel
theorem dX8_seenInAll_1 : decode cX8_seenInAll 1 = .ok (.getfield 11, 3) := by decide +kernel
theorem dX8_seenInAll_4 : decode cX8_seenInAll 4 = .ok (.iconst 4, 1) := by decide +kernel
theorem dX8_seenInAll_5 : decode cX8_seenInAll 5 = .ok (.iaload, 1) := by decide +kernel
theorem dX8_seenInAll_6 : decode cX8_seenInAll 6 = .ok (.ireturn, 1) := by decide +kernel
theorem dX8_secrets_0 : decode cX8_secrets 0 = .ok (.aload_n 0, 1) := by decide +kernel
theorem dX8_secrets_1 : decode cX8_secrets 1 = .ok (.getfield 11, 3) := by decide +kernel
theorem dX8_secrets_4 : decode cX8_secrets 4 = .ok (.iconst 5, 1) := by decide +kernel
theorem dX8_secrets_5 : decode cX8_secrets 5 = .ok (.iaload, 1) := by decide +kernel
theorem dX8_secrets_6 : decode cX8_secrets 6 = .ok (.ireturn, 1) := by decide +kernel
theorem dX8_daysGone_0 : decode cX8_daysGone 0 = .ok (.aload_n 0, 1) := by decide +kernel
theorem dX8_daysGone_1 : decode cX8_daysGone 1 = .ok (.getfield 11, 3) := by decide +kernel
theorem dX8_daysGone_4 : decode cX8_daysGone 4 = .ok (.bipush 6, 2) := by decide +kernel
theorem dX8_daysGone_6 : decode cX8_daysGone 6 = .ok (.iaload, 1) := by decide +kernel
theorem dX8_daysGone_7 : decode cX8_daysGone 7 = .ok (.ireturn, 1) := by decide +kernel
theorem dX8_visitsOf_0 : decode cX8_visitsOf 0 = .ok (.aload_n 0, 1) := by decide +kernel
theorem dX8_visitsOf_1 : decode cX8_visitsOf 1 = .ok (.getfield 15, 3) := by decide +kernel
theorem dX8_visitsOf_4 : decode cX8_visitsOf 4 = .ok (.iload_n 1, 1) := by decide +kernel
theorem dX8_visitsOf_5 : decode cX8_visitsOf 5 = .ok (.invokevirtual 35, 3) := by decide +kernel
theorem dX8_visitsOf_8 : decode cX8_visitsOf 8 = .ok (.ifCond .eq 15, 3) := by decide +kernel
theorem dX8_visitsOf_11 : decode cX8_visitsOf 11 = .ok (.aload_n 0, 1) := by decide +kernel
theorem dX8_visitsOf_12 : decode cX8_visitsOf 12 = .ok (.getfield 11, 3) := by decide +kernel
theorem dX8_visitsOf_15 : decode cX8_visitsOf 15 = .ok (.bipush 7, 2) := by decide +kernel
theorem dX8_visitsOf_17 : decode cX8_visitsOf 17 = .ok (.iload_n 1, 1) := by decide +kernel
theorem dX8_visitsOf_18 : decode cX8_visitsOf 18 = .ok (.iadd, 1) := by decide +kernel
theorem dX8_visitsOf_19 : decode cX8_visitsOf 19 = .ok (.iaload, 1) := by decide +kernel
theorem dX8_visitsOf_20 : decode cX8_visitsOf 20 = .ok (.goto 4, 3) := by decide +kernel
theorem dX8_visitsOf_23 : decode cX8_visitsOf 23 = .ok (.iconst 0, 1) := by decide +kernel
theorem dX8_visitsOf_24 : decode cX8_visitsOf 24 = .ok (.ireturn, 1) := by decide +kernel
theorem dX8_troublesOf_0 : decode cX8_troublesOf 0 = .ok (.aload_n 0, 1) := by decide +kernel
theorem dX8_troublesOf_1 : decode cX8_troublesOf 1 = .ok (.getfield 15, 3) := by decide +kernel
theorem dX8_troublesOf_4 : decode cX8_troublesOf 4 = .ok (.iload_n 1, 1) := by decide +kernel
theorem dX8_troublesOf_5 : decode cX8_troublesOf 5 = .ok (.invokevirtual 35, 3) := by decide +kernel
theorem dX8_troublesOf_8 : decode cX8_troublesOf 8 = .ok (.ifCond .eq 15, 3) := by decide +kernel
theorem dX8_troublesOf_11 : decode cX8_troublesOf 11 = .ok (.aload_n 0, 1) := by decide +kernel
theorem dX8_troublesOf_12 : decode cX8_troublesOf 12 = .ok (.getfield 11, 3) := by decide +kernel
theorem dX8_troublesOf_15 : decode cX8_troublesOf 15 = .ok (.bipush 14, 2) := by decide +kernel
theorem dX8_troublesOf_17 : decode cX8_troublesOf 17 = .ok (.iload_n 1, 1) := by decide +kernel
theorem dX8_troublesOf_18 : decode cX8_troublesOf 18 = .ok (.iadd, 1) := by decide +kernel
theorem dX8_troublesOf_19 : decode cX8_troublesOf 19 = .ok (.iaload, 1) := by decide +kernel
theorem dX8_troublesOf_20 : decode cX8_troublesOf 20 = .ok (.goto 4, 3) := by decide +kernel
theorem dX8_troublesOf_23 : decode cX8_troublesOf 23 = .ok (.iconst 0, 1) := by decide +kernel
theorem dX8_troublesOf_24 : decode cX8_troublesOf 24 = .ok (.ireturn, 1) := by decide +kernel
theorem dX8_patienceOf_0 : decode cX8_patienceOf 0 = .ok (.aload_n 0, 1) := by decide +kernel
theorem dX8_patienceOf_1 : decode cX8_patienceOf 1 = .ok (.getfield 15, 3) := by decide +kernel
theorem dX8_patienceOf_4 : decode cX8_patienceOf 4 = .ok (.iload_n 1, 1) := by decide +kernel
theorem dX8_patienceOf_5 : decode cX8_patienceOf 5 = .ok (.invokevirtual 35, 3) := by decide +kernel
theorem dX8_patienceOf_8 : decode cX8_patienceOf 8 = .ok (.ifCond .eq 15, 3) := by decide +kernel
theorem dX8_patienceOf_11 : decode cX8_patienceOf 11 = .ok (.aload_n 0, 1) := by decide +kernel
theorem dX8_patienceOf_12 : decode cX8_patienceOf 12 = .ok (.getfield 11, 3) := by decide +kernel
theorem dX8_patienceOf_15 : decode cX8_patienceOf 15 = .ok (.bipush 21, 2) := by decide +kernel
theorem dX8_patienceOf_17 : decode cX8_patienceOf 17 = .ok (.iload_n 1, 1) := by decide +kernel
theorem dX8_patienceOf_18 : decode cX8_patienceOf 18 = .ok (.iadd, 1) := by decide +kernel
theorem dX8_patienceOf_19 : decode cX8_patienceOf 19 = .ok (.iaload, 1) := by decide +kernel
theorem dX8_patienceOf_20 : decode cX8_patienceOf 20 = .ok (.goto 4, 3) := by decide +kernel
theorem dX8_patienceOf_23 : decode cX8_patienceOf 23 = .ok (.iconst 0, 1) := by decide +kernel
theorem dX8_patienceOf_24 : decode cX8_patienceOf 24 = .ok (.ireturn, 1) := by decide +kernel
theorem dX8_setPatience_0 : decode cX8_setPatience 0 = .ok (.aload_n 0, 1) := by decide +kernel
theorem dX8_setPatience_1 : decode cX8_setPatience 1 = .ok (.getfield 15, 3) := by decide +kernel
theorem dX8_setPatience_4 : decode cX8_setPatience 4 = .ok (.iload_n 1, 1) := by decide +kernel
theorem dX8_setPatience_5 : decode cX8_setPatience 5 = .ok (.invokevirtual 35, 3) := by decide +kernel
theorem dX8_setPatience_8 : decode cX8_setPatience 8 = .ok (.ifCond .eq 13, 3) := by decide +kernel
theorem dX8_setPatience_11 : decode cX8_setPatience 11 = .ok (.aload_n 0, 1) := by decide +kernel
theorem dX8_setPatience_12 : decode cX8_setPatience 12 = .ok (.getfield 11, 3) := by decide +kernel
theorem dX8_setPatience_15 : decode cX8_setPatience 15 = .ok (.bipush 21, 2) := by decide +kernel
theorem dX8_setPatience_17 : decode cX8_setPatience 17 = .ok (.iload_n 1, 1) := by decide +kernel
theorem dX8_setPatience_18 : decode cX8_setPatience 18 = .ok (.iadd, 1) := by decide +kernel
theorem dX8_setPatience_19 : decode cX8_setPatience 19 = .ok (.iload_n 2, 1) := by decide +kernel
theorem dX8_setPatience_20 : decode cX8_setPatience 20 = .ok (.iastore, 1) := by decide +kernel
theorem dX8_setPatience_21 : decode cX8_setPatience 21 = .ok (.return_, 1) := by decide +kernel
theorem dX8_isTooMuch_0 : decode cX8_isTooMuch 0 = .ok (.aload_n 0, 1) := by decide +kernel
theorem dX8_isTooMuch_1 : decode cX8_isTooMuch 1 = .ok (.iload_n 1, 1) := by decide +kernel
theorem dX8_isTooMuch_2 : decode cX8_isTooMuch 2 = .ok (.invokevirtual 39, 3) := by decide +kernel
theorem dX8_isTooMuch_5 : decode cX8_isTooMuch 5 = .ok (.iload_n 2, 1) := by decide +kernel
theorem dX8_isTooMuch_6 : decode cX8_isTooMuch 6 = .ok (.iadd, 1) := by decide +kernel
theorem dX8_isTooMuch_7 : decode cX8_isTooMuch 7 = .ok (.aload_n 0, 1) := by decide +kernel
theorem dX8_isTooMuch_8 : decode cX8_isTooMuch 8 = .ok (.iload_n 1, 1) := by decide +kernel
theorem dX8_isTooMuch_9 : decode cX8_isTooMuch 9 = .ok (.invokevirtual 43, 3) := by decide +kernel
theorem dX8_isTooMuch_12 : decode cX8_isTooMuch 12 = .ok (.if_icmp .le 7, 3) := by decide +kernel
theorem dX8_isTooMuch_15 : decode cX8_isTooMuch 15 = .ok (.iconst 1, 1) := by decide +kernel
theorem dX8_isTooMuch_16 : decode cX8_isTooMuch 16 = .ok (.goto 4, 3) := by decide +kernel
theorem dX8_isTooMuch_19 : decode cX8_isTooMuch 19 = .ok (.iconst 0, 1) := by decide +kernel
theorem dX8_isTooMuch_20 : decode cX8_isTooMuch 20 = .ok (.ireturn, 1) := by decide +kernel
theorem dX8_tooMuch_0 : decode cX8_tooMuch 0 = .ok (.iconst 0, 1) := by decide +kernel
theorem dX8_tooMuch_1 : decode cX8_tooMuch 1 = .ok (.istore_n 1, 1) := by decide +kernel
theorem dX8_tooMuch_2 : decode cX8_tooMuch 2 = .ok (.iconst 0, 1) := by decide +kernel
theorem dX8_tooMuch_3 : decode cX8_tooMuch 3 = .ok (.istore_n 2, 1) := by decide +kernel
theorem dX8_tooMuch_4 : decode cX8_tooMuch 4 = .ok (.iload_n 2, 1) := by decide +kernel
theorem dX8_tooMuch_5 : decode cX8_tooMuch 5 = .ok (.aload_n 0, 1) := by decide +kernel
theorem dX8_tooMuch_6 : decode cX8_tooMuch 6 = .ok (.getfield 15, 3) := by decide +kernel
theorem dX8_tooMuch_9 : decode cX8_tooMuch 9 = .ok (.getfield 46, 3) := by decide +kernel
theorem dX8_tooMuch_12 : decode cX8_tooMuch 12 = .ok (.if_icmp .ge 24, 3) := by decide +kernel
theorem dX8_tooMuch_15 : decode cX8_tooMuch 15 = .ok (.aload_n 0, 1) := by decide +kernel
theorem dX8_tooMuch_16 : decode cX8_tooMuch 16 = .ok (.iload_n 2, 1) := by decide +kernel
theorem dX8_tooMuch_17 : decode cX8_tooMuch 17 = .ok (.iconst 0, 1) := by decide +kernel
theorem dX8_tooMuch_18 : decode cX8_tooMuch 18 = .ok (.invokevirtual 50, 3) := by decide +kernel
theorem dX8_tooMuch_21 : decode cX8_tooMuch 21 = .ok (.ifCond .eq 9, 3) := by decide +kernel
theorem dX8_tooMuch_24 : decode cX8_tooMuch 24 = .ok (.iload_n 1, 1) := by decide +kernel
theorem dX8_tooMuch_25 : decode cX8_tooMuch 25 = .ok (.iconst 1, 1) := by decide +kernel
theorem dX8_tooMuch_26 : decode cX8_tooMuch 26 = .ok (.iload_n 2, 1) := by decide +kernel
theorem dX8_tooMuch_27 : decode cX8_tooMuch 27 = .ok (.ishl, 1) := by decide +kernel
theorem dX8_tooMuch_28 : decode cX8_tooMuch 28 = .ok (.ior, 1) := by decide +kernel
theorem dX8_tooMuch_29 : decode cX8_tooMuch 29 = .ok (.istore_n 1, 1) := by decide +kernel
theorem dX8_tooMuch_30 : decode cX8_tooMuch 30 = .ok (.iinc 2 1, 3) := by decide +kernel
theorem dX8_tooMuch_33 : decode cX8_tooMuch 33 = .ok (.goto (-29), 3) := by decide +kernel
theorem dX8_tooMuch_36 : decode cX8_tooMuch 36 = .ok (.iload_n 1, 1) := by decide +kernel
theorem dX8_tooMuch_37 : decode cX8_tooMuch 37 = .ok (.ireturn, 1) := by decide +kernel
theorem dX8_reach_0 : decode cX8_reach 0 = .ok (.iconst 0, 1) := by decide +kernel
theorem dX8_reach_1 : decode cX8_reach 1 = .ok (.istore_n 1, 1) := by decide +kernel
theorem dX8_reach_2 : decode cX8_reach 2 = .ok (.iconst 0, 1) := by decide +kernel
theorem dX8_reach_3 : decode cX8_reach 3 = .ok (.istore_n 2, 1) := by decide +kernel
theorem dX8_reach_4 : decode cX8_reach 4 = .ok (.iload_n 2, 1) := by decide +kernel
theorem dX8_reach_5 : decode cX8_reach 5 = .ok (.aload_n 0, 1) := by decide +kernel
theorem dX8_reach_6 : decode cX8_reach 6 = .ok (.getfield 15, 3) := by decide +kernel
theorem dX8_reach_9 : decode cX8_reach 9 = .ok (.getfield 46, 3) := by decide +kernel
theorem dX8_reach_12 : decode cX8_reach 12 = .ok (.if_icmp .ge 24, 3) := by decide +kernel
theorem dX8_reach_15 : decode cX8_reach 15 = .ok (.aload_n 0, 1) := by decide +kernel
theorem dX8_reach_16 : decode cX8_reach 16 = .ok (.iconst 0, 1) := by decide +kernel
theorem dX8_reach_17 : decode cX8_reach 17 = .ok (.iload_n 2, 1) := by decide +kernel
theorem dX8_reach_18 : decode cX8_reach 18 = .ok (.invokevirtual 54, 3) := by decide +kernel
theorem dX8_reach_21 : decode cX8_reach 21 = .ok (.ifCond .eq 9, 3) := by decide +kernel
theorem dX8_reach_24 : decode cX8_reach 24 = .ok (.iload_n 1, 1) := by decide +kernel
theorem dX8_reach_25 : decode cX8_reach 25 = .ok (.iconst 1, 1) := by decide +kernel
theorem dX8_reach_26 : decode cX8_reach 26 = .ok (.iload_n 2, 1) := by decide +kernel
theorem dX8_reach_27 : decode cX8_reach 27 = .ok (.ishl, 1) := by decide +kernel
theorem dX8_reach_28 : decode cX8_reach 28 = .ok (.ior, 1) := by decide +kernel
theorem dX8_reach_29 : decode cX8_reach 29 = .ok (.istore_n 1, 1) := by decide +kernel
theorem dX8_reach_30 : decode cX8_reach 30 = .ok (.iinc 2 1, 3) := by decide +kernel
theorem dX8_reach_33 : decode cX8_reach 33 = .ok (.goto (-29), 3) := by decide +kernel
theorem dX8_reach_36 : decode cX8_reach 36 = .ok (.iload_n 1, 1) := by decide +kernel
theorem dX8_reach_37 : decode cX8_reach 37 = .ok (.ireturn, 1) := by decide +kernel
theorem dX8_couldWalk_0 : decode cX8_couldWalk 0 = .ok (.aload_n 0, 1) := by decide +kernel
theorem dX8_couldWalk_1 : decode cX8_couldWalk 1 = .ok (.getfield 15, 3) := by decide +kernel
theorem dX8_couldWalk_4 : decode cX8_couldWalk 4 = .ok (.iload 4, 2) := by decide +kernel
theorem dX8_couldWalk_6 : decode cX8_couldWalk 6 = .ok (.invokevirtual 35, 3) := by decide +kernel
theorem dX8_couldWalk_9 : decode cX8_couldWalk 9 = .ok (.ifCond .eq 9, 3) := by decide +kernel
theorem dX8_couldWalk_12 : decode cX8_couldWalk 12 = .ok (.iload 4, 2) := by decide +kernel
theorem dX8_couldWalk_14 : decode cX8_couldWalk 14 = .ok (.iload_n 1, 1) := by decide +kernel
theorem dX8_couldWalk_15 : decode cX8_couldWalk 15 = .ok (.if_icmp .ne 5, 3) := by decide +kernel
theorem dX8_couldWalk_18 : decode cX8_couldWalk 18 = .ok (.iconst 0, 1) := by decide +kernel
theorem dX8_couldWalk_19 : decode cX8_couldWalk 19 = .ok (.ireturn, 1) := by decide +kernel
theorem dX8_couldWalk_20 : decode cX8_couldWalk 20 = .ok (.aload_n 0, 1) := by decide +kernel
theorem dX8_couldWalk_21 : decode cX8_couldWalk 21 = .ok (.getfield 15, 3) := by decide +kernel
theorem dX8_couldWalk_24 : decode cX8_couldWalk 24 = .ok (.iload_n 1, 1) := by decide +kernel
theorem dX8_couldWalk_25 : decode cX8_couldWalk 25 = .ok (.iload 4, 2) := by decide +kernel
theorem dX8_couldWalk_27 : decode cX8_couldWalk 27 = .ok (.invokevirtual 57, 3) := by decide +kernel
theorem dX8_couldWalk_30 : decode cX8_couldWalk 30 = .ok (.istore 5, 2) := by decide +kernel
theorem dX8_couldWalk_32 : decode cX8_couldWalk 32 = .ok (.iload_n 3, 1) := by decide +kernel
theorem dX8_couldWalk_33 : decode cX8_couldWalk 33 = .ok (.iload 5, 2) := by decide +kernel
theorem dX8_couldWalk_35 : decode cX8_couldWalk 35 = .ok (.iadd, 1) := by decide +kernel
theorem dX8_couldWalk_36 : decode cX8_couldWalk 36 = .ok (.aload_n 0, 1) := by decide +kernel
theorem dX8_couldWalk_37 : decode cX8_couldWalk 37 = .ok (.getfield 15, 3) := by decide +kernel
theorem dX8_couldWalk_40 : decode cX8_couldWalk 40 = .ok (.getfield 60, 3) := by decide +kernel
theorem dX8_couldWalk_43 : decode cX8_couldWalk 43 = .ok (.iconst 0, 1) := by decide +kernel
theorem dX8_couldWalk_44 : decode cX8_couldWalk 44 = .ok (.iaload, 1) := by decide +kernel
theorem dX8_couldWalk_45 : decode cX8_couldWalk 45 = .ok (.if_icmp .gt 25, 3) := by decide +kernel
theorem dX8_couldWalk_48 : decode cX8_couldWalk 48 = .ok (.iload_n 2, 1) := by decide +kernel
theorem dX8_couldWalk_49 : decode cX8_couldWalk 49 = .ok (.iload 5, 2) := by decide +kernel
theorem dX8_couldWalk_51 : decode cX8_couldWalk 51 = .ok (.iadd, 1) := by decide +kernel
theorem dX8_couldWalk_52 : decode cX8_couldWalk 52 = .ok (.iconst 1, 1) := by decide +kernel
theorem dX8_couldWalk_53 : decode cX8_couldWalk 53 = .ok (.iadd, 1) := by decide +kernel
theorem dX8_couldWalk_54 : decode cX8_couldWalk 54 = .ok (.aload_n 0, 1) := by decide +kernel
theorem dX8_couldWalk_55 : decode cX8_couldWalk 55 = .ok (.getfield 15, 3) := by decide +kernel
theorem dX8_couldWalk_58 : decode cX8_couldWalk 58 = .ok (.getfield 60, 3) := by decide +kernel
theorem dX8_couldWalk_61 : decode cX8_couldWalk 61 = .ok (.iconst 1, 1) := by decide +kernel
theorem dX8_couldWalk_62 : decode cX8_couldWalk 62 = .ok (.iaload, 1) := by decide +kernel
theorem dX8_couldWalk_63 : decode cX8_couldWalk 63 = .ok (.if_icmp .gt 7, 3) := by decide +kernel
theorem dX8_couldWalk_66 : decode cX8_couldWalk 66 = .ok (.iconst 1, 1) := by decide +kernel
theorem dX8_couldWalk_67 : decode cX8_couldWalk 67 = .ok (.goto 4, 3) := by decide +kernel
theorem dX8_couldWalk_70 : decode cX8_couldWalk 70 = .ok (.iconst 0, 1) := by decide +kernel
theorem dX8_couldWalk_71 : decode cX8_couldWalk 71 = .ok (.ireturn, 1) := by decide +kernel
theorem dX8_troubleWithoutLaw_0 : decode cX8_troubleWithoutLaw 0 = .ok (.iconst 0, 1) := by decide +kernel
theorem dX8_troubleWithoutLaw_1 : decode cX8_troubleWithoutLaw 1 = .ok (.bipush 30, 2) := by decide +kernel
theorem dX8_troubleWithoutLaw_3 : decode cX8_troubleWithoutLaw 3 = .ok (.iconst 4, 1) := by decide +kernel
theorem dX8_troubleWithoutLaw_4 : decode cX8_troubleWithoutLaw 4 = .ok (.iconst 2, 1) := by decide +kernel
theorem dX8_troubleWithoutLaw_5 : decode cX8_troubleWithoutLaw 5 = .ok (.iload_n 0, 1) := by decide +kernel
theorem dX8_troubleWithoutLaw_6 : decode cX8_troubleWithoutLaw 6 = .ok (.imul, 1) := by decide +kernel
theorem dX8_troubleWithoutLaw_7 : decode cX8_troubleWithoutLaw 7 = .ok (.iadd, 1) := by decide +kernel
theorem dX8_troubleWithoutLaw_8 : decode cX8_troubleWithoutLaw 8 = .ok (.iload_n 1, 1) := by decide +kernel
theorem dX8_troubleWithoutLaw_9 : decode cX8_troubleWithoutLaw 9 = .ok (.isub, 1) := by decide +kernel
theorem dX8_troubleWithoutLaw_10 : decode cX8_troubleWithoutLaw 10 = .ok (.i2l, 1) := by decide +kernel
theorem dX8_troubleWithoutLaw_11 : decode cX8_troubleWithoutLaw 11 = .ok (.invokestatic 63, 3) := by decide +kernel
theorem dX8_troubleWithoutLaw_14 : decode cX8_troubleWithoutLaw 14 = .ok (.ireturn, 1) := by decide +kernel
theorem dX8_troubleThen_0 : decode cX8_troubleThen 0 = .ok (.aload_n 0, 1) := by decide +kernel
theorem dX8_troubleThen_1 : decode cX8_troubleThen 1 = .ok (.getfield 19, 3) := by decide +kernel
theorem dX8_troubleThen_4 : decode cX8_troubleThen 4 = .ok (.getfield 67, 3) := by decide +kernel
theorem dX8_troubleThen_7 : decode cX8_troubleThen 7 = .ok (.iconst (-1), 1) := by decide +kernel
theorem dX8_troubleThen_8 : decode cX8_troubleThen 8 = .ok (.if_icmp .ne 21, 3) := by decide +kernel
theorem dX8_troubleThen_11 : decode cX8_troubleThen 11 = .ok (.aload_n 0, 1) := by decide +kernel
theorem dX8_troubleThen_12 : decode cX8_troubleThen 12 = .ok (.iload_n 1, 1) := by decide +kernel
theorem dX8_troubleThen_13 : decode cX8_troubleThen 13 = .ok (.invokevirtual 72, 3) := by decide +kernel
theorem dX8_troubleThen_16 : decode cX8_troubleThen 16 = .ok (.aload_n 0, 1) := by decide +kernel
theorem dX8_troubleThen_17 : decode cX8_troubleThen 17 = .ok (.getfield 15, 3) := by decide +kernel
theorem dX8_troubleThen_20 : decode cX8_troubleThen 20 = .ok (.getfield 60, 3) := by decide +kernel
theorem dX8_troubleThen_23 : decode cX8_troubleThen 23 = .ok (.iconst 2, 1) := by decide +kernel
theorem dX8_troubleThen_24 : decode cX8_troubleThen 24 = .ok (.iaload, 1) := by decide +kernel
theorem dX8_troubleThen_25 : decode cX8_troubleThen 25 = .ok (.invokestatic 75, 3) := by decide +kernel
theorem dX8_troubleThen_28 : decode cX8_troubleThen 28 = .ok (.ireturn, 1) := by decide +kernel
theorem dX8_troubleThen_29 : decode cX8_troubleThen 29 = .ok (.aload_n 0, 1) := by decide +kernel
theorem dX8_troubleThen_30 : decode cX8_troubleThen 30 = .ok (.getfield 19, 3) := by decide +kernel
theorem dX8_troubleThen_33 : decode cX8_troubleThen 33 = .ok (.getfield 78, 3) := by decide +kernel
theorem dX8_troubleThen_36 : decode cX8_troubleThen 36 = .ok (.iconst 0, 1) := by decide +kernel
theorem dX8_troubleThen_37 : decode cX8_troubleThen 37 = .ok (.aload_n 0, 1) := by decide +kernel
theorem dX8_troubleThen_38 : decode cX8_troubleThen 38 = .ok (.getfield 15, 3) := by decide +kernel
theorem dX8_troubleThen_41 : decode cX8_troubleThen 41 = .ok (.iload_n 1, 1) := by decide +kernel
theorem dX8_troubleThen_42 : decode cX8_troubleThen 42 = .ok (.iconst 2, 1) := by decide +kernel
theorem dX8_troubleThen_43 : decode cX8_troubleThen 43 = .ok (.invokevirtual 23, 3) := by decide +kernel
theorem dX8_troubleThen_46 : decode cX8_troubleThen 46 = .ok (.iastore, 1) := by decide +kernel
theorem dX8_troubleThen_47 : decode cX8_troubleThen 47 = .ok (.aload_n 0, 1) := by decide +kernel
theorem dX8_troubleThen_48 : decode cX8_troubleThen 48 = .ok (.getfield 19, 3) := by decide +kernel
theorem dX8_troubleThen_51 : decode cX8_troubleThen 51 = .ok (.getfield 78, 3) := by decide +kernel
theorem dX8_troubleThen_54 : decode cX8_troubleThen 54 = .ok (.iconst 1, 1) := by decide +kernel
theorem dX8_troubleThen_55 : decode cX8_troubleThen 55 = .ok (.aload_n 0, 1) := by decide +kernel
theorem dX8_troubleThen_56 : decode cX8_troubleThen 56 = .ok (.getfield 15, 3) := by decide +kernel
theorem dX8_troubleThen_59 : decode cX8_troubleThen 59 = .ok (.iload_n 1, 1) := by decide +kernel
theorem dX8_troubleThen_60 : decode cX8_troubleThen 60 = .ok (.iconst 3, 1) := by decide +kernel
theorem dX8_troubleThen_61 : decode cX8_troubleThen 61 = .ok (.invokevirtual 23, 3) := by decide +kernel
theorem dX8_troubleThen_64 : decode cX8_troubleThen 64 = .ok (.iload 4, 2) := by decide +kernel
theorem dX8_troubleThen_66 : decode cX8_troubleThen 66 = .ok (.iadd, 1) := by decide +kernel
theorem dX8_troubleThen_67 : decode cX8_troubleThen 67 = .ok (.iastore, 1) := by decide +kernel
theorem dX8_troubleThen_68 : decode cX8_troubleThen 68 = .ok (.aload_n 0, 1) := by decide +kernel
theorem dX8_troubleThen_69 : decode cX8_troubleThen 69 = .ok (.getfield 19, 3) := by decide +kernel
theorem dX8_troubleThen_72 : decode cX8_troubleThen 72 = .ok (.getfield 78, 3) := by decide +kernel
theorem dX8_troubleThen_75 : decode cX8_troubleThen 75 = .ok (.iconst 2, 1) := by decide +kernel
theorem dX8_troubleThen_76 : decode cX8_troubleThen 76 = .ok (.aload_n 0, 1) := by decide +kernel
theorem dX8_troubleThen_77 : decode cX8_troubleThen 77 = .ok (.iload_n 1, 1) := by decide +kernel
theorem dX8_troubleThen_78 : decode cX8_troubleThen 78 = .ok (.invokevirtual 43, 3) := by decide +kernel
theorem dX8_troubleThen_81 : decode cX8_troubleThen 81 = .ok (.iastore, 1) := by decide +kernel
theorem dX8_troubleThen_82 : decode cX8_troubleThen 82 = .ok (.aload_n 0, 1) := by decide +kernel
theorem dX8_troubleThen_83 : decode cX8_troubleThen 83 = .ok (.getfield 19, 3) := by decide +kernel
theorem dX8_troubleThen_86 : decode cX8_troubleThen 86 = .ok (.getfield 78, 3) := by decide +kernel
theorem dX8_troubleThen_89 : decode cX8_troubleThen 89 = .ok (.iconst 3, 1) := by decide +kernel
theorem dX8_troubleThen_90 : decode cX8_troubleThen 90 = .ok (.iload_n 2, 1) := by decide +kernel
theorem dX8_troubleThen_91 : decode cX8_troubleThen 91 = .ok (.iastore, 1) := by decide +kernel
theorem dX8_troubleThen_92 : decode cX8_troubleThen 92 = .ok (.aload_n 0, 1) := by decide +kernel
theorem dX8_troubleThen_93 : decode cX8_troubleThen 93 = .ok (.getfield 19, 3) := by decide +kernel
theorem dX8_troubleThen_96 : decode cX8_troubleThen 96 = .ok (.getfield 78, 3) := by decide +kernel
theorem dX8_troubleThen_99 : decode cX8_troubleThen 99 = .ok (.iconst 4, 1) := by decide +kernel
theorem dX8_troubleThen_100 : decode cX8_troubleThen 100 = .ok (.aload_n 0, 1) := by decide +kernel
theorem dX8_troubleThen_101 : decode cX8_troubleThen 101 = .ok (.iload_n 1, 1) := by decide +kernel
theorem dX8_troubleThen_102 : decode cX8_troubleThen 102 = .ok (.invokevirtual 72, 3) := by decide +kernel
theorem dX8_troubleThen_105 : decode cX8_troubleThen 105 = .ok (.iastore, 1) := by decide +kernel
theorem dX8_troubleThen_106 : decode cX8_troubleThen 106 = .ok (.aload_n 0, 1) := by decide +kernel
theorem dX8_troubleThen_107 : decode cX8_troubleThen 107 = .ok (.getfield 19, 3) := by decide +kernel
theorem dX8_troubleThen_110 : decode cX8_troubleThen 110 = .ok (.getfield 78, 3) := by decide +kernel
theorem dX8_troubleThen_113 : decode cX8_troubleThen 113 = .ok (.iconst 5, 1) := by decide +kernel
theorem dX8_troubleThen_114 : decode cX8_troubleThen 114 = .ok (.iload_n 3, 1) := by decide +kernel
theorem dX8_troubleThen_115 : decode cX8_troubleThen 115 = .ok (.iastore, 1) := by decide +kernel
theorem dX8_troubleThen_116 : decode cX8_troubleThen 116 = .ok (.iconst 0, 1) := by decide +kernel
theorem dX8_troubleThen_117 : decode cX8_troubleThen 117 = .ok (.bipush 30, 2) := by decide +kernel
theorem dX8_troubleThen_119 : decode cX8_troubleThen 119 = .ok (.aload_n 0, 1) := by decide +kernel
theorem dX8_troubleThen_120 : decode cX8_troubleThen 120 = .ok (.getfield 19, 3) := by decide +kernel
theorem dX8_troubleThen_123 : decode cX8_troubleThen 123 = .ok (.invokevirtual 81, 3) := by decide +kernel
theorem dX8_troubleThen_126 : decode cX8_troubleThen 126 = .ok (.i2l, 1) := by decide +kernel
theorem dX8_troubleThen_127 : decode cX8_troubleThen 127 = .ok (.invokestatic 63, 3) := by decide +kernel
theorem dX8_troubleThen_130 : decode cX8_troubleThen 130 = .ok (.ireturn, 1) := by decide +kernel
theorem dX8_troubleNow_0 : decode cX8_troubleNow 0 = .ok (.aload_n 0, 1) := by decide +kernel
theorem dX8_troubleNow_1 : decode cX8_troubleNow 1 = .ok (.getfield 15, 3) := by decide +kernel
theorem dX8_troubleNow_4 : decode cX8_troubleNow 4 = .ok (.aload_n 0, 1) := by decide +kernel
theorem dX8_troubleNow_5 : decode cX8_troubleNow 5 = .ok (.getfield 11, 3) := by decide +kernel
theorem dX8_troubleNow_8 : decode cX8_troubleNow 8 = .ok (.iconst 0, 1) := by decide +kernel
theorem dX8_troubleNow_9 : decode cX8_troubleNow 9 = .ok (.iaload, 1) := by decide +kernel
theorem dX8_troubleNow_10 : decode cX8_troubleNow 10 = .ok (.iload_n 1, 1) := by decide +kernel
theorem dX8_troubleNow_11 : decode cX8_troubleNow 11 = .ok (.invokevirtual 57, 3) := by decide +kernel
theorem dX8_troubleNow_14 : decode cX8_troubleNow 14 = .ok (.istore_n 3, 1) := by decide +kernel
theorem dX8_troubleNow_15 : decode cX8_troubleNow 15 = .ok (.aload_n 0, 1) := by decide +kernel
theorem dX8_troubleNow_16 : decode cX8_troubleNow 16 = .ok (.iload_n 1, 1) := by decide +kernel
theorem dX8_troubleNow_17 : decode cX8_troubleNow 17 = .ok (.aload_n 0, 1) := by decide +kernel
theorem dX8_troubleNow_18 : decode cX8_troubleNow 18 = .ok (.getfield 11, 3) := by decide +kernel
theorem dX8_troubleNow_21 : decode cX8_troubleNow 21 = .ok (.iconst 1, 1) := by decide +kernel
theorem dX8_troubleNow_22 : decode cX8_troubleNow 22 = .ok (.iaload, 1) := by decide +kernel
theorem dX8_troubleNow_23 : decode cX8_troubleNow 23 = .ok (.iload_n 3, 1) := by decide +kernel
theorem dX8_troubleNow_24 : decode cX8_troubleNow 24 = .ok (.iadd, 1) := by decide +kernel
theorem dX8_troubleNow_25 : decode cX8_troubleNow 25 = .ok (.aload_n 0, 1) := by decide +kernel
theorem dX8_troubleNow_26 : decode cX8_troubleNow 26 = .ok (.getfield 11, 3) := by decide +kernel
theorem dX8_troubleNow_29 : decode cX8_troubleNow 29 = .ok (.iconst 2, 1) := by decide +kernel
theorem dX8_troubleNow_30 : decode cX8_troubleNow 30 = .ok (.iaload, 1) := by decide +kernel
theorem dX8_troubleNow_31 : decode cX8_troubleNow 31 = .ok (.iload_n 3, 1) := by decide +kernel
theorem dX8_troubleNow_32 : decode cX8_troubleNow 32 = .ok (.iadd, 1) := by decide +kernel
theorem dX8_troubleNow_33 : decode cX8_troubleNow 33 = .ok (.iload_n 2, 1) := by decide +kernel
theorem dX8_troubleNow_34 : decode cX8_troubleNow 34 = .ok (.invokevirtual 85, 3) := by decide +kernel
theorem dX8_troubleNow_37 : decode cX8_troubleNow 37 = .ok (.ireturn, 1) := by decide +kernel
theorem dX8_canDo_0 : decode cX8_canDo 0 = .ok (.iload_n 1, 1) := by decide +kernel
theorem dX8_canDo_1 : decode cX8_canDo 1 = .ok (.tableswitch 147 0 3 #[31, 55, 88, 118], 31) := by decide +kernel
theorem dX8_canDo_32 : decode cX8_canDo 32 = .ok (.aload_n 0, 1) := by decide +kernel
theorem dX8_canDo_33 : decode cX8_canDo 33 = .ok (.aload_n 0, 1) := by decide +kernel
theorem dX8_canDo_34 : decode cX8_canDo 34 = .ok (.getfield 11, 3) := by decide +kernel
theorem dX8_canDo_37 : decode cX8_canDo 37 = .ok (.iconst 0, 1) := by decide +kernel
theorem dX8_canDo_38 : decode cX8_canDo 38 = .ok (.iaload, 1) := by decide +kernel
theorem dX8_canDo_39 : decode cX8_canDo 39 = .ok (.aload_n 0, 1) := by decide +kernel
theorem dX8_canDo_40 : decode cX8_canDo 40 = .ok (.getfield 11, 3) := by decide +kernel
theorem dX8_canDo_43 : decode cX8_canDo 43 = .ok (.iconst 1, 1) := by decide +kernel
theorem dX8_canDo_44 : decode cX8_canDo 44 = .ok (.iaload, 1) := by decide +kernel
theorem dX8_canDo_45 : decode cX8_canDo 45 = .ok (.aload_n 0, 1) := by decide +kernel
theorem dX8_canDo_46 : decode cX8_canDo 46 = .ok (.getfield 11, 3) := by decide +kernel
theorem dX8_canDo_49 : decode cX8_canDo 49 = .ok (.iconst 2, 1) := by decide +kernel
theorem dX8_canDo_50 : decode cX8_canDo 50 = .ok (.iaload, 1) := by decide +kernel
theorem dX8_canDo_51 : decode cX8_canDo 51 = .ok (.iload_n 2, 1) := by decide +kernel
theorem dX8_canDo_52 : decode cX8_canDo 52 = .ok (.invokevirtual 89, 3) := by decide +kernel
theorem dX8_canDo_55 : decode cX8_canDo 55 = .ok (.ireturn, 1) := by decide +kernel
theorem dX8_canDo_56 : decode cX8_canDo 56 = .ok (.aload_n 0, 1) := by decide +kernel
theorem dX8_canDo_57 : decode cX8_canDo 57 = .ok (.getfield 11, 3) := by decide +kernel
theorem dX8_canDo_60 : decode cX8_canDo 60 = .ok (.iconst 2, 1) := by decide +kernel
theorem dX8_canDo_61 : decode cX8_canDo 61 = .ok (.iaload, 1) := by decide +kernel
theorem dX8_canDo_62 : decode cX8_canDo 62 = .ok (.ifCond .le 25, 3) := by decide +kernel
theorem dX8_canDo_65 : decode cX8_canDo 65 = .ok (.aload_n 0, 1) := by decide +kernel
theorem dX8_canDo_66 : decode cX8_canDo 66 = .ok (.getfield 11, 3) := by decide +kernel
theorem dX8_canDo_69 : decode cX8_canDo 69 = .ok (.iconst 1, 1) := by decide +kernel
theorem dX8_canDo_70 : decode cX8_canDo 70 = .ok (.iaload, 1) := by decide +kernel
theorem dX8_canDo_71 : decode cX8_canDo 71 = .ok (.aload_n 0, 1) := by decide +kernel
theorem dX8_canDo_72 : decode cX8_canDo 72 = .ok (.getfield 15, 3) := by decide +kernel
theorem dX8_canDo_75 : decode cX8_canDo 75 = .ok (.getfield 60, 3) := by decide +kernel
theorem dX8_canDo_78 : decode cX8_canDo 78 = .ok (.iconst 1, 1) := by decide +kernel
theorem dX8_canDo_79 : decode cX8_canDo 79 = .ok (.iaload, 1) := by decide +kernel
theorem dX8_canDo_80 : decode cX8_canDo 80 = .ok (.if_icmp .ge 7, 3) := by decide +kernel
theorem dX8_canDo_83 : decode cX8_canDo 83 = .ok (.iconst 1, 1) := by decide +kernel
theorem dX8_canDo_84 : decode cX8_canDo 84 = .ok (.goto 4, 3) := by decide +kernel
theorem dX8_canDo_87 : decode cX8_canDo 87 = .ok (.iconst 0, 1) := by decide +kernel
theorem dX8_canDo_88 : decode cX8_canDo 88 = .ok (.ireturn, 1) := by decide +kernel
theorem dX8_canDo_89 : decode cX8_canDo 89 = .ok (.aload_n 0, 1) := by decide +kernel
theorem dX8_canDo_90 : decode cX8_canDo 90 = .ok (.getfield 15, 3) := by decide +kernel
theorem dX8_canDo_93 : decode cX8_canDo 93 = .ok (.iload_n 2, 1) := by decide +kernel
theorem dX8_canDo_94 : decode cX8_canDo 94 = .ok (.invokevirtual 35, 3) := by decide +kernel
theorem dX8_canDo_97 : decode cX8_canDo 97 = .ok (.ifCond .eq 20, 3) := by decide +kernel
theorem dX8_canDo_100 : decode cX8_canDo 100 = .ok (.aload_n 0, 1) := by decide +kernel
theorem dX8_canDo_101 : decode cX8_canDo 101 = .ok (.getfield 11, 3) := by decide +kernel
theorem dX8_canDo_104 : decode cX8_canDo 104 = .ok (.iconst 5, 1) := by decide +kernel
theorem dX8_canDo_105 : decode cX8_canDo 105 = .ok (.iaload, 1) := by decide +kernel
theorem dX8_canDo_106 : decode cX8_canDo 106 = .ok (.iload_n 2, 1) := by decide +kernel
theorem dX8_canDo_107 : decode cX8_canDo 107 = .ok (.invokestatic 93, 3) := by decide +kernel
theorem dX8_canDo_110 : decode cX8_canDo 110 = .ok (.ifCond .eq 7, 3) := by decide +kernel
theorem dX8_canDo_113 : decode cX8_canDo 113 = .ok (.iconst 1, 1) := by decide +kernel
theorem dX8_canDo_114 : decode cX8_canDo 114 = .ok (.goto 4, 3) := by decide +kernel
theorem dX8_canDo_117 : decode cX8_canDo 117 = .ok (.iconst 0, 1) := by decide +kernel
theorem dX8_canDo_118 : decode cX8_canDo 118 = .ok (.ireturn, 1) := by decide +kernel
theorem dX8_canDo_119 : decode cX8_canDo 119 = .ok (.aload_n 0, 1) := by decide +kernel
theorem dX8_canDo_120 : decode cX8_canDo 120 = .ok (.getfield 15, 3) := by decide +kernel
theorem dX8_canDo_123 : decode cX8_canDo 123 = .ok (.invokevirtual 96, 3) := by decide +kernel
theorem dX8_canDo_126 : decode cX8_canDo 126 = .ok (.ifCond .eq 20, 3) := by decide +kernel
theorem dX8_canDo_129 : decode cX8_canDo 129 = .ok (.aload_n 0, 1) := by decide +kernel
theorem dX8_canDo_130 : decode cX8_canDo 130 = .ok (.getfield 11, 3) := by decide +kernel
theorem dX8_canDo_133 : decode cX8_canDo 133 = .ok (.bipush 6, 2) := by decide +kernel
theorem dX8_canDo_135 : decode cX8_canDo 135 = .ok (.iaload, 1) := by decide +kernel
theorem dX8_canDo_136 : decode cX8_canDo 136 = .ok (.sipush 999, 3) := by decide +kernel
theorem dX8_canDo_139 : decode cX8_canDo 139 = .ok (.if_icmp .ge 7, 3) := by decide +kernel
theorem dX8_canDo_142 : decode cX8_canDo 142 = .ok (.iconst 1, 1) := by decide +kernel
theorem dX8_canDo_143 : decode cX8_canDo 143 = .ok (.goto 4, 3) := by decide +kernel
theorem dX8_canDo_146 : decode cX8_canDo 146 = .ok (.iconst 0, 1) := by decide +kernel
theorem dX8_canDo_147 : decode cX8_canDo 147 = .ok (.ireturn, 1) := by decide +kernel
theorem dX8_canDo_148 : decode cX8_canDo 148 = .ok (.iconst 0, 1) := by decide +kernel
theorem dX8_canDo_149 : decode cX8_canDo 149 = .ok (.ireturn, 1) := by decide +kernel
theorem dX8_carryOut_0 : decode cX8_carryOut 0 = .ok (.iload_n 1, 1) := by decide +kernel
theorem dX8_carryOut_1 : decode cX8_carryOut 1 = .ok (.tableswitch 44 0 2 #[27, 33, 38], 27) := by decide +kernel
theorem dX8_carryOut_28 : decode cX8_carryOut 28 = .ok (.aload_n 0, 1) := by decide +kernel
theorem dX8_carryOut_29 : decode cX8_carryOut 29 = .ok (.iload_n 2, 1) := by decide +kernel
theorem dX8_carryOut_30 : decode cX8_carryOut 30 = .ok (.invokevirtual 100, 3) := by decide +kernel
theorem dX8_carryOut_33 : decode cX8_carryOut 33 = .ok (.ireturn, 1) := by decide +kernel
theorem dX8_carryOut_34 : decode cX8_carryOut 34 = .ok (.aload_n 0, 1) := by decide +kernel
theorem dX8_carryOut_35 : decode cX8_carryOut 35 = .ok (.invokevirtual 103, 3) := by decide +kernel
theorem dX8_carryOut_38 : decode cX8_carryOut 38 = .ok (.ireturn, 1) := by decide +kernel
theorem dX8_carryOut_39 : decode cX8_carryOut 39 = .ok (.aload_n 0, 1) := by decide +kernel
theorem dX8_carryOut_40 : decode cX8_carryOut 40 = .ok (.iload_n 2, 1) := by decide +kernel
theorem dX8_carryOut_41 : decode cX8_carryOut 41 = .ok (.invokevirtual 106, 3) := by decide +kernel
theorem dX8_carryOut_44 : decode cX8_carryOut 44 = .ok (.ireturn, 1) := by decide +kernel
theorem dX8_carryOut_45 : decode cX8_carryOut 45 = .ok (.aload_n 0, 1) := by decide +kernel
theorem dX8_carryOut_46 : decode cX8_carryOut 46 = .ok (.invokevirtual 109, 3) := by decide +kernel
theorem dX8_carryOut_49 : decode cX8_carryOut 49 = .ok (.ireturn, 1) := by decide +kernel
theorem dX8_comeTo_0 : decode cX8_comeTo 0 = .ok (.aload_n 0, 1) := by decide +kernel
theorem dX8_comeTo_1 : decode cX8_comeTo 1 = .ok (.getfield 15, 3) := by decide +kernel
theorem dX8_comeTo_4 : decode cX8_comeTo 4 = .ok (.iload_n 1, 1) := by decide +kernel
theorem dX8_comeTo_5 : decode cX8_comeTo 5 = .ok (.invokevirtual 35, 3) := by decide +kernel
theorem dX8_comeTo_8 : decode cX8_comeTo 8 = .ok (.ifCond .ne 5, 3) := by decide +kernel
theorem dX8_comeTo_11 : decode cX8_comeTo 11 = .ok (.iconst (-1), 1) := by decide +kernel
theorem dX8_comeTo_12 : decode cX8_comeTo 12 = .ok (.ireturn, 1) := by decide +kernel
theorem dX8_comeTo_13 : decode cX8_comeTo 13 = .ok (.aload_n 0, 1) := by decide +kernel
theorem dX8_comeTo_14 : decode cX8_comeTo 14 = .ok (.getfield 15, 3) := by decide +kernel
theorem dX8_comeTo_17 : decode cX8_comeTo 17 = .ok (.aload_n 0, 1) := by decide +kernel
theorem dX8_comeTo_18 : decode cX8_comeTo 18 = .ok (.getfield 11, 3) := by decide +kernel
theorem dX8_comeTo_21 : decode cX8_comeTo 21 = .ok (.iconst 0, 1) := by decide +kernel
theorem dX8_comeTo_22 : decode cX8_comeTo 22 = .ok (.iaload, 1) := by decide +kernel
theorem dX8_comeTo_23 : decode cX8_comeTo 23 = .ok (.iload_n 1, 1) := by decide +kernel
theorem dX8_comeTo_24 : decode cX8_comeTo 24 = .ok (.invokevirtual 57, 3) := by decide +kernel
theorem dX8_comeTo_27 : decode cX8_comeTo 27 = .ok (.istore_n 2, 1) := by decide +kernel
theorem dX8_comeTo_28 : decode cX8_comeTo 28 = .ok (.aload_n 0, 1) := by decide +kernel
theorem dX8_comeTo_29 : decode cX8_comeTo 29 = .ok (.iload_n 1, 1) := by decide +kernel
theorem dX8_comeTo_30 : decode cX8_comeTo 30 = .ok (.aload_n 0, 1) := by decide +kernel
theorem dX8_comeTo_31 : decode cX8_comeTo 31 = .ok (.getfield 11, 3) := by decide +kernel
theorem dX8_comeTo_34 : decode cX8_comeTo 34 = .ok (.iconst 1, 1) := by decide +kernel
theorem dX8_comeTo_35 : decode cX8_comeTo 35 = .ok (.iaload, 1) := by decide +kernel
theorem dX8_comeTo_36 : decode cX8_comeTo 36 = .ok (.iload_n 2, 1) := by decide +kernel
theorem dX8_comeTo_37 : decode cX8_comeTo 37 = .ok (.iadd, 1) := by decide +kernel
theorem dX8_comeTo_38 : decode cX8_comeTo 38 = .ok (.aload_n 0, 1) := by decide +kernel
theorem dX8_comeTo_39 : decode cX8_comeTo 39 = .ok (.getfield 11, 3) := by decide +kernel
theorem dX8_comeTo_42 : decode cX8_comeTo 42 = .ok (.iconst 2, 1) := by decide +kernel
theorem dX8_comeTo_43 : decode cX8_comeTo 43 = .ok (.iaload, 1) := by decide +kernel
theorem dX8_comeTo_44 : decode cX8_comeTo 44 = .ok (.iload_n 2, 1) := by decide +kernel
theorem dX8_comeTo_45 : decode cX8_comeTo 45 = .ok (.iadd, 1) := by decide +kernel
theorem dX8_comeTo_46 : decode cX8_comeTo 46 = .ok (.iconst 0, 1) := by decide +kernel
theorem dX8_comeTo_47 : decode cX8_comeTo 47 = .ok (.invokevirtual 85, 3) := by decide +kernel
theorem dX8_comeTo_50 : decode cX8_comeTo 50 = .ok (.istore_n 3, 1) := by decide +kernel
theorem dX8_comeTo_51 : decode cX8_comeTo 51 = .ok (.aload_n 0, 1) := by decide +kernel
theorem dX8_comeTo_52 : decode cX8_comeTo 52 = .ok (.getfield 11, 3) := by decide +kernel
theorem dX8_comeTo_55 : decode cX8_comeTo 55 = .ok (.iconst 0, 1) := by decide +kernel
theorem dX8_comeTo_56 : decode cX8_comeTo 56 = .ok (.iload_n 1, 1) := by decide +kernel
theorem dX8_comeTo_57 : decode cX8_comeTo 57 = .ok (.iastore, 1) := by decide +kernel
theorem dX8_comeTo_58 : decode cX8_comeTo 58 = .ok (.aload_n 0, 1) := by decide +kernel
theorem dX8_comeTo_59 : decode cX8_comeTo 59 = .ok (.getfield 11, 3) := by decide +kernel
theorem dX8_comeTo_62 : decode cX8_comeTo 62 = .ok (.iconst 1, 1) := by decide +kernel
theorem dX8_comeTo_63 : decode cX8_comeTo 63 = .ok (.dup2, 1) := by decide +kernel
theorem dX8_comeTo_64 : decode cX8_comeTo 64 = .ok (.iaload, 1) := by decide +kernel
theorem dX8_comeTo_65 : decode cX8_comeTo 65 = .ok (.iload_n 2, 1) := by decide +kernel
theorem dX8_comeTo_66 : decode cX8_comeTo 66 = .ok (.iconst 1, 1) := by decide +kernel
theorem dX8_comeTo_67 : decode cX8_comeTo 67 = .ok (.iadd, 1) := by decide +kernel
theorem dX8_comeTo_68 : decode cX8_comeTo 68 = .ok (.iadd, 1) := by decide +kernel
theorem dX8_comeTo_69 : decode cX8_comeTo 69 = .ok (.iastore, 1) := by decide +kernel
theorem dX8_comeTo_70 : decode cX8_comeTo 70 = .ok (.aload_n 0, 1) := by decide +kernel
theorem dX8_comeTo_71 : decode cX8_comeTo 71 = .ok (.getfield 11, 3) := by decide +kernel
theorem dX8_comeTo_74 : decode cX8_comeTo 74 = .ok (.iconst 2, 1) := by decide +kernel
theorem dX8_comeTo_75 : decode cX8_comeTo 75 = .ok (.dup2, 1) := by decide +kernel
theorem dX8_comeTo_76 : decode cX8_comeTo 76 = .ok (.iaload, 1) := by decide +kernel
theorem dX8_comeTo_77 : decode cX8_comeTo 77 = .ok (.iload_n 2, 1) := by decide +kernel
theorem dX8_comeTo_78 : decode cX8_comeTo 78 = .ok (.iadd, 1) := by decide +kernel
theorem dX8_comeTo_79 : decode cX8_comeTo 79 = .ok (.iastore, 1) := by decide +kernel
theorem dX8_comeTo_80 : decode cX8_comeTo 80 = .ok (.aload_n 0, 1) := by decide +kernel
theorem dX8_comeTo_81 : decode cX8_comeTo 81 = .ok (.getfield 11, 3) := by decide +kernel
theorem dX8_comeTo_84 : decode cX8_comeTo 84 = .ok (.bipush 7, 2) := by decide +kernel
theorem dX8_comeTo_86 : decode cX8_comeTo 86 = .ok (.iload_n 1, 1) := by decide +kernel
theorem dX8_comeTo_87 : decode cX8_comeTo 87 = .ok (.iadd, 1) := by decide +kernel
theorem dX8_comeTo_88 : decode cX8_comeTo 88 = .ok (.iaload, 1) := by decide +kernel
theorem dX8_comeTo_89 : decode cX8_comeTo 89 = .ok (.ifCond .ne 39, 3) := by decide +kernel
theorem dX8_comeTo_92 : decode cX8_comeTo 92 = .ok (.aload_n 0, 1) := by decide +kernel
theorem dX8_comeTo_93 : decode cX8_comeTo 93 = .ok (.getfield 11, 3) := by decide +kernel
theorem dX8_comeTo_96 : decode cX8_comeTo 96 = .ok (.iconst 3, 1) := by decide +kernel
theorem dX8_comeTo_97 : decode cX8_comeTo 97 = .ok (.dup2, 1) := by decide +kernel
theorem dX8_comeTo_98 : decode cX8_comeTo 98 = .ok (.iaload, 1) := by decide +kernel
theorem dX8_comeTo_99 : decode cX8_comeTo 99 = .ok (.aload_n 0, 1) := by decide +kernel
theorem dX8_comeTo_100 : decode cX8_comeTo 100 = .ok (.getfield 15, 3) := by decide +kernel
theorem dX8_comeTo_103 : decode cX8_comeTo 103 = .ok (.iload_n 1, 1) := by decide +kernel
theorem dX8_comeTo_104 : decode cX8_comeTo 104 = .ok (.iconst 3, 1) := by decide +kernel
theorem dX8_comeTo_105 : decode cX8_comeTo 105 = .ok (.invokevirtual 23, 3) := by decide +kernel
theorem dX8_comeTo_108 : decode cX8_comeTo 108 = .ok (.iadd, 1) := by decide +kernel
theorem dX8_comeTo_109 : decode cX8_comeTo 109 = .ok (.iastore, 1) := by decide +kernel
theorem dX8_comeTo_110 : decode cX8_comeTo 110 = .ok (.aload_n 0, 1) := by decide +kernel
theorem dX8_comeTo_111 : decode cX8_comeTo 111 = .ok (.getfield 11, 3) := by decide +kernel
theorem dX8_comeTo_114 : decode cX8_comeTo 114 = .ok (.iconst 4, 1) := by decide +kernel
theorem dX8_comeTo_115 : decode cX8_comeTo 115 = .ok (.dup2, 1) := by decide +kernel
theorem dX8_comeTo_116 : decode cX8_comeTo 116 = .ok (.iaload, 1) := by decide +kernel
theorem dX8_comeTo_117 : decode cX8_comeTo 117 = .ok (.aload_n 0, 1) := by decide +kernel
