theorem dX0_init_0 : decode cX0_init 0 = .ok (.aload_n 0, 1) := by decide +kernel
theorem dX0_init_1 : decode cX0_init 1 = .ok (.invokespecial 3, 3) := by decide +kernel
theorem dX0_init_4 : decode cX0_init 4 = .ok (.aload_n 0, 1) := by decide +kernel
theorem dX0_init_5 : decode cX0_init 5 = .ok (.bipush 6, 2) := by decide +kernel
theorem dX0_init_7 : decode cX0_init 7 = .ok (.bipush 6, 2) := by decide +kernel
theorem dX0_init_9 : decode cX0_init 9 = .ok (.multianewarray 9 2, 4) := by decide +kernel
theorem dX0_init_13 : decode cX0_init 13 = .ok (.putfield 11, 3) := by decide +kernel
theorem dX0_init_16 : decode cX0_init 16 = .ok (.aload_n 0, 1) := by decide +kernel
theorem dX0_init_17 : decode cX0_init 17 = .ok (.bipush 6, 2) := by decide +kernel
theorem dX0_init_19 : decode cX0_init 19 = .ok (.newarray .int, 2) := by decide +kernel
theorem dX0_init_21 : decode cX0_init 21 = .ok (.putfield 16, 3) := by decide +kernel
theorem dX0_init_24 : decode cX0_init 24 = .ok (.return_, 1) := by decide +kernel
theorem dX0_copyFrom_0 : decode cX0_copyFrom 0 = .ok (.aload_n 0, 1) := by decide +kernel
theorem dX0_copyFrom_1 : decode cX0_copyFrom 1 = .ok (.aload_n 1, 1) := by decide +kernel
theorem dX0_copyFrom_2 : decode cX0_copyFrom 2 = .ok (.getfield 20, 3) := by decide +kernel
theorem dX0_copyFrom_5 : decode cX0_copyFrom 5 = .ok (.putfield 20, 3) := by decide +kernel
theorem dX0_copyFrom_8 : decode cX0_copyFrom 8 = .ok (.iconst 0, 1) := by decide +kernel
theorem dX0_copyFrom_9 : decode cX0_copyFrom 9 = .ok (.istore_n 2, 1) := by decide +kernel
theorem dX0_copyFrom_10 : decode cX0_copyFrom 10 = .ok (.iload_n 2, 1) := by decide +kernel
theorem dX0_copyFrom_11 : decode cX0_copyFrom 11 = .ok (.aload_n 0, 1) := by decide +kernel
theorem dX0_copyFrom_12 : decode cX0_copyFrom 12 = .ok (.getfield 20, 3) := by decide +kernel
theorem dX0_copyFrom_15 : decode cX0_copyFrom 15 = .ok (.if_icmp .ge 40, 3) := by decide +kernel
theorem dX0_copyFrom_18 : decode cX0_copyFrom 18 = .ok (.aload_n 0, 1) := by decide +kernel
theorem dX0_copyFrom_19 : decode cX0_copyFrom 19 = .ok (.getfield 16, 3) := by decide +kernel
theorem dX0_copyFrom_22 : decode cX0_copyFrom 22 = .ok (.iload_n 2, 1) := by decide +kernel
theorem dX0_copyFrom_23 : decode cX0_copyFrom 23 = .ok (.aload_n 1, 1) := by decide +kernel
theorem dX0_copyFrom_24 : decode cX0_copyFrom 24 = .ok (.getfield 16, 3) := by decide +kernel
theorem dX0_copyFrom_27 : decode cX0_copyFrom 27 = .ok (.iload_n 2, 1) := by decide +kernel
theorem dX0_copyFrom_28 : decode cX0_copyFrom 28 = .ok (.iaload, 1) := by decide +kernel
theorem dX0_copyFrom_29 : decode cX0_copyFrom 29 = .ok (.iastore, 1) := by decide +kernel
theorem dX0_copyFrom_30 : decode cX0_copyFrom 30 = .ok (.aload_n 1, 1) := by decide +kernel
theorem dX0_copyFrom_31 : decode cX0_copyFrom 31 = .ok (.getfield 11, 3) := by decide +kernel
theorem dX0_copyFrom_34 : decode cX0_copyFrom 34 = .ok (.iload_n 2, 1) := by decide +kernel
theorem dX0_copyFrom_35 : decode cX0_copyFrom 35 = .ok (.aaload, 1) := by decide +kernel
theorem dX0_copyFrom_36 : decode cX0_copyFrom 36 = .ok (.iconst 0, 1) := by decide +kernel
theorem dX0_copyFrom_37 : decode cX0_copyFrom 37 = .ok (.aload_n 0, 1) := by decide +kernel
theorem dX0_copyFrom_38 : decode cX0_copyFrom 38 = .ok (.getfield 11, 3) := by decide +kernel
theorem dX0_copyFrom_41 : decode cX0_copyFrom 41 = .ok (.iload_n 2, 1) := by decide +kernel
theorem dX0_copyFrom_42 : decode cX0_copyFrom 42 = .ok (.aaload, 1) := by decide +kernel
theorem dX0_copyFrom_43 : decode cX0_copyFrom 43 = .ok (.iconst 0, 1) := by decide +kernel
theorem dX0_copyFrom_44 : decode cX0_copyFrom 44 = .ok (.bipush 6, 2) := by decide +kernel
theorem dX0_copyFrom_46 : decode cX0_copyFrom 46 = .ok (.invokestatic 24, 3) := by decide +kernel
theorem dX0_copyFrom_49 : decode cX0_copyFrom 49 = .ok (.iinc 2 1, 3) := by decide +kernel
theorem dX0_copyFrom_52 : decode cX0_copyFrom 52 = .ok (.goto (-42), 3) := by decide +kernel
theorem dX0_copyFrom_55 : decode cX0_copyFrom 55 = .ok (.return_, 1) := by decide +kernel
theorem dX0_add_0 : decode cX0_add 0 = .ok (.aload_n 0, 1) := by decide +kernel
theorem dX0_add_1 : decode cX0_add 1 = .ok (.getfield 20, 3) := by decide +kernel
theorem dX0_add_4 : decode cX0_add 4 = .ok (.bipush 6, 2) := by decide +kernel
theorem dX0_add_6 : decode cX0_add 6 = .ok (.if_icmp .ge 11, 3) := by decide +kernel
theorem dX0_add_9 : decode cX0_add 9 = .ok (.iload_n 3, 1) := by decide +kernel
theorem dX0_add_10 : decode cX0_add 10 = .ok (.iload_n 2, 1) := by decide +kernel
theorem dX0_add_11 : decode cX0_add 11 = .ok (.isub, 1) := by decide +kernel
theorem dX0_add_12 : decode cX0_add 12 = .ok (.bipush 6, 2) := by decide +kernel
theorem dX0_add_14 : decode cX0_add 14 = .ok (.if_icmp .le 4, 3) := by decide +kernel
theorem dX0_add_17 : decode cX0_add 17 = .ok (.return_, 1) := by decide +kernel
theorem dX0_add_18 : decode cX0_add 18 = .ok (.iconst 0, 1) := by decide +kernel
theorem dX0_add_19 : decode cX0_add 19 = .ok (.istore 4, 2) := by decide +kernel
theorem dX0_add_21 : decode cX0_add 21 = .ok (.iload 4, 2) := by decide +kernel
theorem dX0_add_23 : decode cX0_add 23 = .ok (.iload_n 3, 1) := by decide +kernel
theorem dX0_add_24 : decode cX0_add 24 = .ok (.iload_n 2, 1) := by decide +kernel
theorem dX0_add_25 : decode cX0_add 25 = .ok (.isub, 1) := by decide +kernel
theorem dX0_add_26 : decode cX0_add 26 = .ok (.if_icmp .ge 27, 3) := by decide +kernel
theorem dX0_add_29 : decode cX0_add 29 = .ok (.aload_n 0, 1) := by decide +kernel
theorem dX0_add_30 : decode cX0_add 30 = .ok (.getfield 11, 3) := by decide +kernel
theorem dX0_add_33 : decode cX0_add 33 = .ok (.aload_n 0, 1) := by decide +kernel
theorem dX0_add_34 : decode cX0_add 34 = .ok (.getfield 20, 3) := by decide +kernel
theorem dX0_add_37 : decode cX0_add 37 = .ok (.aaload, 1) := by decide +kernel
theorem dX0_add_38 : decode cX0_add 38 = .ok (.iload 4, 2) := by decide +kernel
theorem dX0_add_40 : decode cX0_add 40 = .ok (.aload_n 1, 1) := by decide +kernel
theorem dX0_add_41 : decode cX0_add 41 = .ok (.iload_n 2, 1) := by decide +kernel
theorem dX0_add_42 : decode cX0_add 42 = .ok (.iload 4, 2) := by decide +kernel
theorem dX0_add_44 : decode cX0_add 44 = .ok (.iadd, 1) := by decide +kernel
theorem dX0_add_45 : decode cX0_add 45 = .ok (.baload, 1) := by decide +kernel
theorem dX0_add_46 : decode cX0_add 46 = .ok (.bastore, 1) := by decide +kernel
theorem dX0_add_47 : decode cX0_add 47 = .ok (.iinc 4 1, 3) := by decide +kernel
theorem dX0_add_50 : decode cX0_add 50 = .ok (.goto (-29), 3) := by decide +kernel
theorem dX0_add_53 : decode cX0_add 53 = .ok (.aload_n 0, 1) := by decide +kernel
theorem dX0_add_54 : decode cX0_add 54 = .ok (.getfield 16, 3) := by decide +kernel
theorem dX0_add_57 : decode cX0_add 57 = .ok (.aload_n 0, 1) := by decide +kernel
theorem dX0_add_58 : decode cX0_add 58 = .ok (.getfield 20, 3) := by decide +kernel
theorem dX0_add_61 : decode cX0_add 61 = .ok (.iload_n 3, 1) := by decide +kernel
theorem dX0_add_62 : decode cX0_add 62 = .ok (.iload_n 2, 1) := by decide +kernel
theorem dX0_add_63 : decode cX0_add 63 = .ok (.isub, 1) := by decide +kernel
theorem dX0_add_64 : decode cX0_add 64 = .ok (.iastore, 1) := by decide +kernel
theorem dX0_add_65 : decode cX0_add 65 = .ok (.aload_n 0, 1) := by decide +kernel
theorem dX0_add_66 : decode cX0_add 66 = .ok (.dup, 1) := by decide +kernel
theorem dX0_add_67 : decode cX0_add 67 = .ok (.getfield 20, 3) := by decide +kernel
theorem dX0_add_70 : decode cX0_add 70 = .ok (.iconst 1, 1) := by decide +kernel
theorem dX0_add_71 : decode cX0_add 71 = .ok (.iadd, 1) := by decide +kernel
theorem dX0_add_72 : decode cX0_add 72 = .ok (.putfield 20, 3) := by decide +kernel
theorem dX0_add_75 : decode cX0_add 75 = .ok (.return_, 1) := by decide +kernel
theorem dX0_find_0 : decode cX0_find 0 = .ok (.iconst 0, 1) := by decide +kernel
theorem dX0_find_1 : decode cX0_find 1 = .ok (.istore 4, 2) := by decide +kernel
theorem dX0_find_3 : decode cX0_find 3 = .ok (.iload 4, 2) := by decide +kernel
theorem dX0_find_5 : decode cX0_find 5 = .ok (.aload_n 0, 1) := by decide +kernel
theorem dX0_find_6 : decode cX0_find 6 = .ok (.getfield 20, 3) := by decide +kernel
theorem dX0_find_9 : decode cX0_find 9 = .ok (.if_icmp .ge 24, 3) := by decide +kernel
theorem dX0_find_12 : decode cX0_find 12 = .ok (.aload_n 0, 1) := by decide +kernel
theorem dX0_find_13 : decode cX0_find 13 = .ok (.iload 4, 2) := by decide +kernel
theorem dX0_find_15 : decode cX0_find 15 = .ok (.aload_n 1, 1) := by decide +kernel
theorem dX0_find_16 : decode cX0_find 16 = .ok (.iload_n 2, 1) := by decide +kernel
theorem dX0_find_17 : decode cX0_find 17 = .ok (.iload_n 3, 1) := by decide +kernel
theorem dX0_find_18 : decode cX0_find 18 = .ok (.invokevirtual 30, 3) := by decide +kernel
theorem dX0_find_21 : decode cX0_find 21 = .ok (.ifCond .eq 6, 3) := by decide +kernel
theorem dX0_find_24 : decode cX0_find 24 = .ok (.iload 4, 2) := by decide +kernel
theorem dX0_find_26 : decode cX0_find 26 = .ok (.ireturn, 1) := by decide +kernel
theorem dX0_find_27 : decode cX0_find 27 = .ok (.iinc 4 1, 3) := by decide +kernel
theorem dX0_find_30 : decode cX0_find 30 = .ok (.goto (-27), 3) := by decide +kernel
theorem dX0_find_33 : decode cX0_find 33 = .ok (.iconst (-1), 1) := by decide +kernel
theorem dX0_find_34 : decode cX0_find 34 = .ok (.ireturn, 1) := by decide +kernel
theorem dX0_isNamed_0 : decode cX0_isNamed 0 = .ok (.aload_n 0, 1) := by decide +kernel
theorem dX0_isNamed_1 : decode cX0_isNamed 1 = .ok (.getfield 16, 3) := by decide +kernel
theorem dX0_isNamed_4 : decode cX0_isNamed 4 = .ok (.iload_n 1, 1) := by decide +kernel
theorem dX0_isNamed_5 : decode cX0_isNamed 5 = .ok (.iaload, 1) := by decide +kernel
theorem dX0_isNamed_6 : decode cX0_isNamed 6 = .ok (.iload 4, 2) := by decide +kernel
theorem dX0_isNamed_8 : decode cX0_isNamed 8 = .ok (.iload_n 3, 1) := by decide +kernel
theorem dX0_isNamed_9 : decode cX0_isNamed 9 = .ok (.isub, 1) := by decide +kernel
theorem dX0_isNamed_10 : decode cX0_isNamed 10 = .ok (.if_icmp .eq 5, 3) := by decide +kernel
theorem dX0_isNamed_13 : decode cX0_isNamed 13 = .ok (.iconst 0, 1) := by decide +kernel
theorem dX0_isNamed_14 : decode cX0_isNamed 14 = .ok (.ireturn, 1) := by decide +kernel
theorem dX0_isNamed_15 : decode cX0_isNamed 15 = .ok (.iconst 0, 1) := by decide +kernel
theorem dX0_isNamed_16 : decode cX0_isNamed 16 = .ok (.istore 5, 2) := by decide +kernel
theorem dX0_isNamed_18 : decode cX0_isNamed 18 = .ok (.iload 5, 2) := by decide +kernel
theorem dX0_isNamed_20 : decode cX0_isNamed 20 = .ok (.aload_n 0, 1) := by decide +kernel
theorem dX0_isNamed_21 : decode cX0_isNamed 21 = .ok (.getfield 16, 3) := by decide +kernel
theorem dX0_isNamed_24 : decode cX0_isNamed 24 = .ok (.iload_n 1, 1) := by decide +kernel
theorem dX0_isNamed_25 : decode cX0_isNamed 25 = .ok (.iaload, 1) := by decide +kernel
theorem dX0_isNamed_26 : decode cX0_isNamed 26 = .ok (.if_icmp .ge 29, 3) := by decide +kernel
theorem dX0_isNamed_29 : decode cX0_isNamed 29 = .ok (.aload_n 0, 1) := by decide +kernel
theorem dX0_isNamed_30 : decode cX0_isNamed 30 = .ok (.getfield 11, 3) := by decide +kernel
theorem dX0_isNamed_33 : decode cX0_isNamed 33 = .ok (.iload_n 1, 1) := by decide +kernel
theorem dX0_isNamed_34 : decode cX0_isNamed 34 = .ok (.aaload, 1) := by decide +kernel
theorem dX0_isNamed_35 : decode cX0_isNamed 35 = .ok (.iload 5, 2) := by decide +kernel
theorem dX0_isNamed_37 : decode cX0_isNamed 37 = .ok (.baload, 1) := by decide +kernel
theorem dX0_isNamed_38 : decode cX0_isNamed 38 = .ok (.aload_n 2, 1) := by decide +kernel
theorem dX0_isNamed_39 : decode cX0_isNamed 39 = .ok (.iload_n 3, 1) := by decide +kernel
theorem dX0_isNamed_40 : decode cX0_isNamed 40 = .ok (.iload 5, 2) := by decide +kernel
theorem dX0_isNamed_42 : decode cX0_isNamed 42 = .ok (.iadd, 1) := by decide +kernel
theorem dX0_isNamed_43 : decode cX0_isNamed 43 = .ok (.baload, 1) := by decide +kernel
theorem dX0_isNamed_44 : decode cX0_isNamed 44 = .ok (.if_icmp .eq 5, 3) := by decide +kernel
theorem dX0_isNamed_47 : decode cX0_isNamed 47 = .ok (.iconst 0, 1) := by decide +kernel
theorem dX0_isNamed_48 : decode cX0_isNamed 48 = .ok (.ireturn, 1) := by decide +kernel
theorem dX0_isNamed_49 : decode cX0_isNamed 49 = .ok (.iinc 5 1, 3) := by decide +kernel
theorem dX0_isNamed_52 : decode cX0_isNamed 52 = .ok (.goto (-34), 3) := by decide +kernel
theorem dX0_isNamed_55 : decode cX0_isNamed 55 = .ok (.iconst 1, 1) := by decide +kernel
theorem dX0_isNamed_56 : decode cX0_isNamed 56 = .ok (.ireturn, 1) := by decide +kernel
theorem dX1_init_0 : decode cX1_init 0 = .ok (.aload_n 0, 1) := by decide +kernel
theorem dX1_init_1 : decode cX1_init 1 = .ok (.invokespecial 1, 3) := by decide +kernel
theorem dX1_init_4 : decode cX1_init 4 = .ok (.aload_n 0, 1) := by decide +kernel
theorem dX1_init_5 : decode cX1_init 5 = .ok (.getstatic 7, 3) := by decide +kernel
theorem dX1_init_8 : decode cX1_init 8 = .ok (.arraylength, 1) := by decide +kernel
theorem dX1_init_9 : decode cX1_init 9 = .ok (.newarray .int, 2) := by decide +kernel
theorem dX1_init_11 : decode cX1_init 11 = .ok (.putfield 13, 3) := by decide +kernel
theorem dX1_init_14 : decode cX1_init 14 = .ok (.return_, 1) := by decide +kernel
theorem dX3_init_0 : decode cX3_init 0 = .ok (.aload_n 0, 1) := by decide +kernel
theorem dX3_init_1 : decode cX3_init 1 = .ok (.invokespecial 3, 3) := by decide +kernel
theorem dX3_init_4 : decode cX3_init 4 = .ok (.aload_n 0, 1) := by decide +kernel
theorem dX3_init_5 : decode cX3_init 5 = .ok (.bipush 6, 2) := by decide +kernel
theorem dX3_init_7 : decode cX3_init 7 = .ok (.anewarray 9, 3) := by decide +kernel
theorem dX3_init_10 : decode cX3_init 10 = .ok (.putfield 11, 3) := by decide +kernel
theorem dX3_init_13 : decode cX3_init 13 = .ok (.iconst 0, 1) := by decide +kernel
theorem dX3_init_14 : decode cX3_init 14 = .ok (.istore_n 1, 1) := by decide +kernel
theorem dX3_init_15 : decode cX3_init 15 = .ok (.iload_n 1, 1) := by decide +kernel
theorem dX3_init_16 : decode cX3_init 16 = .ok (.bipush 6, 2) := by decide +kernel
theorem dX3_init_18 : decode cX3_init 18 = .ok (.if_icmp .ge 22, 3) := by decide +kernel
theorem dX3_init_21 : decode cX3_init 21 = .ok (.aload_n 0, 1) := by decide +kernel
theorem dX3_init_22 : decode cX3_init 22 = .ok (.getfield 11, 3) := by decide +kernel
theorem dX3_init_25 : decode cX3_init 25 = .ok (.iload_n 1, 1) := by decide +kernel
theorem dX3_init_26 : decode cX3_init 26 = .ok (.new 9, 3) := by decide +kernel
theorem dX3_init_29 : decode cX3_init 29 = .ok (.dup, 1) := by decide +kernel
theorem dX3_init_30 : decode cX3_init 30 = .ok (.invokespecial 17, 3) := by decide +kernel
theorem dX3_init_33 : decode cX3_init 33 = .ok (.aastore, 1) := by decide +kernel
theorem dX3_init_34 : decode cX3_init 34 = .ok (.iinc 1 1, 3) := by decide +kernel
theorem dX3_init_37 : decode cX3_init 37 = .ok (.goto (-22), 3) := by decide +kernel
theorem dX3_init_40 : decode cX3_init 40 = .ok (.return_, 1) := by decide +kernel
theorem dX3_keep_0 : decode cX3_keep 0 = .ok (.aload_n 0, 1) := by decide +kernel
theorem dX3_keep_1 : decode cX3_keep 1 = .ok (.aload_n 0, 1) := by decide +kernel
theorem dX3_keep_2 : decode cX3_keep 2 = .ok (.getfield 18, 3) := by decide +kernel
theorem dX3_keep_5 : decode cX3_keep 5 = .ok (.iconst 1, 1) := by decide +kernel
theorem dX3_keep_6 : decode cX3_keep 6 = .ok (.iadd, 1) := by decide +kernel
theorem dX3_keep_7 : decode cX3_keep 7 = .ok (.bipush 6, 2) := by decide +kernel
theorem dX3_keep_9 : decode cX3_keep 9 = .ok (.if_icmp .ge 12, 3) := by decide +kernel
theorem dX3_keep_12 : decode cX3_keep 12 = .ok (.aload_n 0, 1) := by decide +kernel
theorem dX3_keep_13 : decode cX3_keep 13 = .ok (.getfield 18, 3) := by decide +kernel
theorem dX3_keep_16 : decode cX3_keep 16 = .ok (.iconst 1, 1) := by decide +kernel
theorem dX3_keep_17 : decode cX3_keep 17 = .ok (.iadd, 1) := by decide +kernel
theorem dX3_keep_18 : decode cX3_keep 18 = .ok (.goto 4, 3) := by decide +kernel
theorem dX3_keep_21 : decode cX3_keep 21 = .ok (.iconst 0, 1) := by decide +kernel
theorem dX3_keep_22 : decode cX3_keep 22 = .ok (.putfield 18, 3) := by decide +kernel
theorem dX3_keep_25 : decode cX3_keep 25 = .ok (.aload_n 0, 1) := by decide +kernel
theorem dX3_keep_26 : decode cX3_keep 26 = .ok (.getfield 11, 3) := by decide +kernel
theorem dX3_keep_29 : decode cX3_keep 29 = .ok (.aload_n 0, 1) := by decide +kernel
theorem dX3_keep_30 : decode cX3_keep 30 = .ok (.getfield 18, 3) := by decide +kernel
theorem dX3_keep_33 : decode cX3_keep 33 = .ok (.aaload, 1) := by decide +kernel
theorem dX3_keep_34 : decode cX3_keep 34 = .ok (.aload_n 1, 1) := by decide +kernel
theorem dX3_keep_35 : decode cX3_keep 35 = .ok (.invokevirtual 22, 3) := by decide +kernel
theorem dX3_keep_38 : decode cX3_keep 38 = .ok (.aload_n 0, 1) := by decide +kernel
theorem dX3_keep_39 : decode cX3_keep 39 = .ok (.getfield 26, 3) := by decide +kernel
theorem dX3_keep_42 : decode cX3_keep 42 = .ok (.bipush 6, 2) := by decide +kernel
theorem dX3_keep_44 : decode cX3_keep 44 = .ok (.if_icmp .ge 13, 3) := by decide +kernel
theorem dX3_keep_47 : decode cX3_keep 47 = .ok (.aload_n 0, 1) := by decide +kernel
theorem dX3_keep_48 : decode cX3_keep 48 = .ok (.dup, 1) := by decide +kernel
theorem dX3_keep_49 : decode cX3_keep 49 = .ok (.getfield 26, 3) := by decide +kernel
theorem dX3_keep_52 : decode cX3_keep 52 = .ok (.iconst 1, 1) := by decide +kernel
theorem dX3_keep_53 : decode cX3_keep 53 = .ok (.iadd, 1) := by decide +kernel
theorem dX3_keep_54 : decode cX3_keep 54 = .ok (.putfield 26, 3) := by decide +kernel
theorem dX3_keep_57 : decode cX3_keep 57 = .ok (.return_, 1) := by decide +kernel
theorem dX3_takeBack_0 : decode cX3_takeBack 0 = .ok (.aload_n 0, 1) := by decide +kernel
theorem dX3_takeBack_1 : decode cX3_takeBack 1 = .ok (.getfield 26, 3) := by decide +kernel
theorem dX3_takeBack_4 : decode cX3_takeBack 4 = .ok (.ifCond .ne 4, 3) := by decide +kernel
theorem dX3_takeBack_7 : decode cX3_takeBack 7 = .ok (.return_, 1) := by decide +kernel
theorem dX3_takeBack_8 : decode cX3_takeBack 8 = .ok (.aload_n 1, 1) := by decide +kernel
theorem dX3_takeBack_9 : decode cX3_takeBack 9 = .ok (.aload_n 0, 1) := by decide +kernel
theorem dX3_takeBack_10 : decode cX3_takeBack 10 = .ok (.getfield 11, 3) := by decide +kernel
theorem dX3_takeBack_13 : decode cX3_takeBack 13 = .ok (.aload_n 0, 1) := by decide +kernel
theorem dX3_takeBack_14 : decode cX3_takeBack 14 = .ok (.getfield 18, 3) := by decide +kernel
theorem dX3_takeBack_17 : decode cX3_takeBack 17 = .ok (.aaload, 1) := by decide +kernel
theorem dX3_takeBack_18 : decode cX3_takeBack 18 = .ok (.invokevirtual 22, 3) := by decide +kernel
theorem dX3_takeBack_21 : decode cX3_takeBack 21 = .ok (.aload_n 0, 1) := by decide +kernel
theorem dX3_takeBack_22 : decode cX3_takeBack 22 = .ok (.aload_n 0, 1) := by decide +kernel
theorem dX3_takeBack_23 : decode cX3_takeBack 23 = .ok (.getfield 18, 3) := by decide +kernel
theorem dX3_takeBack_26 : decode cX3_takeBack 26 = .ok (.ifCond .le 12, 3) := by decide +kernel
theorem dX3_takeBack_29 : decode cX3_takeBack 29 = .ok (.aload_n 0, 1) := by decide +kernel
theorem dX3_takeBack_30 : decode cX3_takeBack 30 = .ok (.getfield 18, 3) := by decide +kernel
theorem dX3_takeBack_33 : decode cX3_takeBack 33 = .ok (.iconst 1, 1) := by decide +kernel
theorem dX3_takeBack_34 : decode cX3_takeBack 34 = .ok (.isub, 1) := by decide +kernel
theorem dX3_takeBack_35 : decode cX3_takeBack 35 = .ok (.goto 4, 3) := by decide +kernel
theorem dX3_takeBack_38 : decode cX3_takeBack 38 = .ok (.iconst 5, 1) := by decide +kernel
theorem dX3_takeBack_39 : decode cX3_takeBack 39 = .ok (.putfield 18, 3) := by decide +kernel
theorem dX3_takeBack_42 : decode cX3_takeBack 42 = .ok (.aload_n 0, 1) := by decide +kernel
theorem dX3_takeBack_43 : decode cX3_takeBack 43 = .ok (.dup, 1) := by decide +kernel
theorem dX3_takeBack_44 : decode cX3_takeBack 44 = .ok (.getfield 26, 3) := by decide +kernel
theorem dX3_takeBack_47 : decode cX3_takeBack 47 = .ok (.iconst 1, 1) := by decide +kernel
theorem dX3_takeBack_48 : decode cX3_takeBack 48 = .ok (.isub, 1) := by decide +kernel
theorem dX3_takeBack_49 : decode cX3_takeBack 49 = .ok (.putfield 26, 3) := by decide +kernel
theorem dX3_takeBack_52 : decode cX3_takeBack 52 = .ok (.return_, 1) := by decide +kernel
theorem dX4_init_0 : decode cX4_init 0 = .ok (.aload_n 0, 1) := by decide +kernel
theorem dX4_init_1 : decode cX4_init 1 = .ok (.invokespecial 3, 3) := by decide +kernel
theorem dX4_init_4 : decode cX4_init 4 = .ok (.aload_n 0, 1) := by decide +kernel
theorem dX4_init_5 : decode cX4_init 5 = .ok (.sipush 600, 3) := by decide +kernel
theorem dX4_init_8 : decode cX4_init 8 = .ok (.newarray .byte, 2) := by decide +kernel
theorem dX4_init_10 : decode cX4_init 10 = .ok (.putfield 9, 3) := by decide +kernel
theorem dX4_init_13 : decode cX4_init 13 = .ok (.aload_n 0, 1) := by decide +kernel
theorem dX4_init_14 : decode cX4_init 14 = .ok (.getstatic 15, 3) := by decide +kernel
theorem dX4_init_17 : decode cX4_init 17 = .ok (.arraylength, 1) := by decide +kernel
theorem dX4_init_18 : decode cX4_init 18 = .ok (.newarray .int, 2) := by decide +kernel
theorem dX4_init_20 : decode cX4_init 20 = .ok (.putfield 19, 3) := by decide +kernel
theorem dX4_init_23 : decode cX4_init 23 = .ok (.aload_n 0, 1) := by decide +kernel
theorem dX4_init_24 : decode cX4_init 24 = .ok (.iconst (-1), 1) := by decide +kernel
theorem dX4_init_25 : decode cX4_init 25 = .ok (.putfield 22, 3) := by decide +kernel
theorem dX4_init_28 : decode cX4_init 28 = .ok (.return_, 1) := by decide +kernel
theorem dX4_putText_0 : decode cX4_putText 0 = .ok (.iconst 0, 1) := by decide +kernel
theorem dX4_putText_1 : decode cX4_putText 1 = .ok (.istore_n 2, 1) := by decide +kernel
theorem dX4_putText_2 : decode cX4_putText 2 = .ok (.iload_n 2, 1) := by decide +kernel
theorem dX4_putText_3 : decode cX4_putText 3 = .ok (.aload_n 1, 1) := by decide +kernel
theorem dX4_putText_4 : decode cX4_putText 4 = .ok (.invokevirtual 26, 3) := by decide +kernel
theorem dX4_putText_7 : decode cX4_putText 7 = .ok (.if_icmp .ge 18, 3) := by decide +kernel
theorem dX4_putText_10 : decode cX4_putText 10 = .ok (.aload_n 0, 1) := by decide +kernel
theorem dX4_putText_11 : decode cX4_putText 11 = .ok (.aload_n 1, 1) := by decide +kernel
theorem dX4_putText_12 : decode cX4_putText 12 = .ok (.iload_n 2, 1) := by decide +kernel
theorem dX4_putText_13 : decode cX4_putText 13 = .ok (.invokevirtual 32, 3) := by decide +kernel
theorem dX4_putText_16 : decode cX4_putText 16 = .ok (.invokevirtual 36, 3) := by decide +kernel
theorem dX4_putText_19 : decode cX4_putText 19 = .ok (.iinc 2 1, 3) := by decide +kernel
theorem dX4_putText_22 : decode cX4_putText 22 = .ok (.goto (-20), 3) := by decide +kernel
theorem dX4_putText_25 : decode cX4_putText 25 = .ok (.return_, 1) := by decide +kernel
theorem dX4_putFour_0 : decode cX4_putFour 0 = .ok (.aload_n 0, 1) := by decide +kernel
theorem dX4_putFour_1 : decode cX4_putFour 1 = .ok (.iload_n 1, 1) := by decide +kernel
theorem dX4_putFour_2 : decode cX4_putFour 2 = .ok (.bipush 24, 2) := by decide +kernel
theorem dX4_putFour_4 : decode cX4_putFour 4 = .ok (.iushr, 1) := by decide +kernel
theorem dX4_putFour_5 : decode cX4_putFour 5 = .ok (.invokevirtual 36, 3) := by decide +kernel
theorem dX4_putFour_8 : decode cX4_putFour 8 = .ok (.aload_n 0, 1) := by decide +kernel
theorem dX4_putFour_9 : decode cX4_putFour 9 = .ok (.iload_n 1, 1) := by decide +kernel
theorem dX4_putFour_10 : decode cX4_putFour 10 = .ok (.bipush 16, 2) := by decide +kernel
theorem dX4_putFour_12 : decode cX4_putFour 12 = .ok (.iushr, 1) := by decide +kernel
theorem dX4_putFour_13 : decode cX4_putFour 13 = .ok (.invokevirtual 36, 3) := by decide +kernel
theorem dX4_putFour_16 : decode cX4_putFour 16 = .ok (.aload_n 0, 1) := by decide +kernel
theorem dX4_putFour_17 : decode cX4_putFour 17 = .ok (.iload_n 1, 1) := by decide +kernel
theorem dX4_putFour_18 : decode cX4_putFour 18 = .ok (.bipush 8, 2) := by decide +kernel
theorem dX4_putFour_20 : decode cX4_putFour 20 = .ok (.iushr, 1) := by decide +kernel
theorem dX4_putFour_21 : decode cX4_putFour 21 = .ok (.invokevirtual 36, 3) := by decide +kernel
theorem dX4_putFour_24 : decode cX4_putFour 24 = .ok (.aload_n 0, 1) := by decide +kernel
theorem dX4_putFour_25 : decode cX4_putFour 25 = .ok (.iload_n 1, 1) := by decide +kernel
theorem dX4_putFour_26 : decode cX4_putFour 26 = .ok (.invokevirtual 36, 3) := by decide +kernel
theorem dX4_putFour_29 : decode cX4_putFour 29 = .ok (.return_, 1) := by decide +kernel
theorem dX4_putByte_0 : decode cX4_putByte 0 = .ok (.aload_n 0, 1) := by decide +kernel
theorem dX4_putByte_1 : decode cX4_putByte 1 = .ok (.getfield 40, 3) := by decide +kernel
theorem dX4_putByte_4 : decode cX4_putByte 4 = .ok (.sipush 600, 3) := by decide +kernel
theorem dX4_putByte_7 : decode cX4_putByte 7 = .ok (.if_icmp .ge 24, 3) := by decide +kernel
theorem dX4_putByte_10 : decode cX4_putByte 10 = .ok (.aload_n 0, 1) := by decide +kernel
theorem dX4_putByte_11 : decode cX4_putByte 11 = .ok (.getfield 9, 3) := by decide +kernel
theorem dX4_putByte_14 : decode cX4_putByte 14 = .ok (.aload_n 0, 1) := by decide +kernel
theorem dX4_putByte_15 : decode cX4_putByte 15 = .ok (.getfield 40, 3) := by decide +kernel
theorem dX4_putByte_18 : decode cX4_putByte 18 = .ok (.iload_n 1, 1) := by decide +kernel
theorem dX4_putByte_19 : decode cX4_putByte 19 = .ok (.i2b, 1) := by decide +kernel
theorem dX4_putByte_20 : decode cX4_putByte 20 = .ok (.bastore, 1) := by decide +kernel
theorem dX4_putByte_21 : decode cX4_putByte 21 = .ok (.aload_n 0, 1) := by decide +kernel
theorem dX4_putByte_22 : decode cX4_putByte 22 = .ok (.dup, 1) := by decide +kernel
theorem dX4_putByte_23 : decode cX4_putByte 23 = .ok (.getfield 40, 3) := by decide +kernel
theorem dX4_putByte_26 : decode cX4_putByte 26 = .ok (.iconst 1, 1) := by decide +kernel
theorem dX4_putByte_27 : decode cX4_putByte 27 = .ok (.iadd, 1) := by decide +kernel
theorem dX4_putByte_28 : decode cX4_putByte 28 = .ok (.putfield 40, 3) := by decide +kernel
theorem dX4_putByte_31 : decode cX4_putByte 31 = .ok (.return_, 1) := by decide +kernel
theorem dX4_begin_0 : decode cX4_begin 0 = .ok (.aload_n 0, 1) := by decide +kernel
theorem dX4_begin_1 : decode cX4_begin 1 = .ok (.iconst 0, 1) := by decide +kernel
theorem dX4_begin_2 : decode cX4_begin 2 = .ok (.putfield 42, 3) := by decide +kernel
theorem dX4_begin_5 : decode cX4_begin 5 = .ok (.aload_n 0, 1) := by decide +kernel
theorem dX4_begin_6 : decode cX4_begin 6 = .ok (.iconst (-1), 1) := by decide +kernel
theorem dX4_begin_7 : decode cX4_begin 7 = .ok (.putfield 22, 3) := by decide +kernel
theorem dX4_begin_10 : decode cX4_begin 10 = .ok (.aload_n 0, 1) := by decide +kernel
theorem dX4_begin_11 : decode cX4_begin 11 = .ok (.iconst 0, 1) := by decide +kernel
theorem dX4_begin_12 : decode cX4_begin 12 = .ok (.putfield 45, 3) := by decide +kernel
theorem dX4_begin_15 : decode cX4_begin 15 = .ok (.aload_n 0, 1) := by decide +kernel
theorem dX4_begin_16 : decode cX4_begin 16 = .ok (.invokevirtual 48, 3) := by decide +kernel
theorem dX4_begin_19 : decode cX4_begin 19 = .ok (.return_, 1) := by decide +kernel
theorem dX4_advance_0 : decode cX4_advance 0 = .ok (.aload_n 0, 1) := by decide +kernel
theorem dX4_advance_1 : decode cX4_advance 1 = .ok (.aload_n 0, 1) := by decide +kernel
theorem dX4_advance_2 : decode cX4_advance 2 = .ok (.getfield 45, 3) := by decide +kernel
theorem dX4_advance_5 : decode cX4_advance 5 = .ok (.putfield 51, 3) := by decide +kernel
theorem dX4_advance_8 : decode cX4_advance 8 = .ok (.aload_n 0, 1) := by decide +kernel
theorem dX4_advance_9 : decode cX4_advance 9 = .ok (.getfield 51, 3) := by decide +kernel
theorem dX4_advance_12 : decode cX4_advance 12 = .ok (.aload_n 0, 1) := by decide +kernel
theorem dX4_advance_13 : decode cX4_advance 13 = .ok (.getfield 40, 3) := by decide +kernel
theorem dX4_advance_16 : decode cX4_advance 16 = .ok (.if_icmp .ge 44, 3) := by decide +kernel
theorem dX4_advance_19 : decode cX4_advance 19 = .ok (.aload_n 0, 1) := by decide +kernel
theorem dX4_advance_20 : decode cX4_advance 20 = .ok (.getfield 9, 3) := by decide +kernel
theorem dX4_advance_23 : decode cX4_advance 23 = .ok (.aload_n 0, 1) := by decide +kernel
theorem dX4_advance_24 : decode cX4_advance 24 = .ok (.getfield 51, 3) := by decide +kernel
theorem dX4_advance_27 : decode cX4_advance 27 = .ok (.baload, 1) := by decide +kernel
theorem dX4_advance_28 : decode cX4_advance 28 = .ok (.bipush 32, 2) := by decide +kernel
theorem dX4_advance_30 : decode cX4_advance 30 = .ok (.if_icmp .eq 17, 3) := by decide +kernel
theorem dX4_advance_33 : decode cX4_advance 33 = .ok (.aload_n 0, 1) := by decide +kernel
theorem dX4_advance_34 : decode cX4_advance 34 = .ok (.getfield 9, 3) := by decide +kernel
theorem dX4_advance_37 : decode cX4_advance 37 = .ok (.aload_n 0, 1) := by decide +kernel
theorem dX4_advance_38 : decode cX4_advance 38 = .ok (.getfield 51, 3) := by decide +kernel
theorem dX4_advance_41 : decode cX4_advance 41 = .ok (.baload, 1) := by decide +kernel
theorem dX4_advance_42 : decode cX4_advance 42 = .ok (.bipush 10, 2) := by decide +kernel
theorem dX4_advance_44 : decode cX4_advance 44 = .ok (.if_icmp .ne 16, 3) := by decide +kernel
theorem dX4_advance_47 : decode cX4_advance 47 = .ok (.aload_n 0, 1) := by decide +kernel
theorem dX4_advance_48 : decode cX4_advance 48 = .ok (.dup, 1) := by decide +kernel
theorem dX4_advance_49 : decode cX4_advance 49 = .ok (.getfield 51, 3) := by decide +kernel
theorem dX4_advance_52 : decode cX4_advance 52 = .ok (.iconst 1, 1) := by decide +kernel
theorem dX4_advance_53 : decode cX4_advance 53 = .ok (.iadd, 1) := by decide +kernel
theorem dX4_advance_54 : decode cX4_advance 54 = .ok (.putfield 51, 3) := by decide +kernel
theorem dX4_advance_57 : decode cX4_advance 57 = .ok (.goto (-49), 3) := by decide +kernel
theorem dX4_advance_60 : decode cX4_advance 60 = .ok (.aload_n 0, 1) := by decide +kernel
theorem dX4_advance_61 : decode cX4_advance 61 = .ok (.aload_n 0, 1) := by decide +kernel
theorem dX4_advance_62 : decode cX4_advance 62 = .ok (.getfield 51, 3) := by decide +kernel
theorem dX4_advance_65 : decode cX4_advance 65 = .ok (.putfield 45, 3) := by decide +kernel
theorem dX4_advance_68 : decode cX4_advance 68 = .ok (.aload_n 0, 1) := by decide +kernel
theorem dX4_advance_69 : decode cX4_advance 69 = .ok (.getfield 51, 3) := by decide +kernel
theorem dX4_advance_72 : decode cX4_advance 72 = .ok (.aload_n 0, 1) := by decide +kernel
theorem dX4_advance_73 : decode cX4_advance 73 = .ok (.getfield 40, 3) := by decide +kernel
theorem dX4_advance_76 : decode cX4_advance 76 = .ok (.if_icmp .lt 11, 3) := by decide +kernel
theorem dX4_advance_79 : decode cX4_advance 79 = .ok (.aload_n 0, 1) := by decide +kernel
theorem dX4_advance_80 : decode cX4_advance 80 = .ok (.iconst 0, 1) := by decide +kernel
theorem dX4_advance_81 : decode cX4_advance 81 = .ok (.putfield 54, 3) := by decide +kernel
theorem dX4_advance_84 : decode cX4_advance 84 = .ok (.goto 159, 3) := by decide +kernel
theorem dX4_advance_87 : decode cX4_advance 87 = .ok (.aload_n 0, 1) := by decide +kernel
theorem dX4_advance_88 : decode cX4_advance 88 = .ok (.getfield 9, 3) := by decide +kernel
theorem dX4_advance_91 : decode cX4_advance 91 = .ok (.aload_n 0, 1) := by decide +kernel
theorem dX4_advance_92 : decode cX4_advance 92 = .ok (.getfield 51, 3) := by decide +kernel
theorem dX4_advance_95 : decode cX4_advance 95 = .ok (.baload, 1) := by decide +kernel
theorem dX4_advance_96 : decode cX4_advance 96 = .ok (.bipush 97, 2) := by decide +kernel
theorem dX4_advance_98 : decode cX4_advance 98 = .ok (.if_icmp .lt 51, 3) := by decide +kernel
theorem dX4_advance_101 : decode cX4_advance 101 = .ok (.aload_n 0, 1) := by decide +kernel
theorem dX4_advance_102 : decode cX4_advance 102 = .ok (.getfield 9, 3) := by decide +kernel
theorem dX4_advance_105 : decode cX4_advance 105 = .ok (.aload_n 0, 1) := by decide +kernel
theorem dX4_advance_106 : decode cX4_advance 106 = .ok (.getfield 51, 3) := by decide +kernel
theorem dX4_advance_109 : decode cX4_advance 109 = .ok (.baload, 1) := by decide +kernel
theorem dX4_advance_110 : decode cX4_advance 110 = .ok (.bipush 122, 2) := by decide +kernel
theorem dX4_advance_112 : decode cX4_advance 112 = .ok (.if_icmp .gt 37, 3) := by decide +kernel
theorem dX4_advance_115 : decode cX4_advance 115 = .ok (.aload_n 0, 1) := by decide +kernel
theorem dX4_advance_116 : decode cX4_advance 116 = .ok (.bipush 97, 2) := by decide +kernel
theorem dX4_advance_118 : decode cX4_advance 118 = .ok (.bipush 122, 2) := by decide +kernel
theorem dX4_advance_120 : decode cX4_advance 120 = .ok (.invokevirtual 57, 3) := by decide +kernel
theorem dX4_advance_123 : decode cX4_advance 123 = .ok (.aload_n 0, 1) := by decide +kernel
theorem dX4_advance_124 : decode cX4_advance 124 = .ok (.aload_n 0, 1) := by decide +kernel
theorem dX4_advance_125 : decode cX4_advance 125 = .ok (.getfield 45, 3) := by decide +kernel
theorem dX4_advance_128 : decode cX4_advance 128 = .ok (.aload_n 0, 1) := by decide +kernel
theorem dX4_advance_129 : decode cX4_advance 129 = .ok (.getfield 51, 3) := by decide +kernel
theorem dX4_advance_132 : decode cX4_advance 132 = .ok (.isub, 1) := by decide +kernel
theorem dX4_advance_133 : decode cX4_advance 133 = .ok (.bipush 8, 2) := by decide +kernel
theorem dX4_advance_135 : decode cX4_advance 135 = .ok (.if_icmp .le 7, 3) := by decide +kernel
theorem dX4_advance_138 : decode cX4_advance 138 = .ok (.iconst 4, 1) := by decide +kernel
theorem dX4_advance_139 : decode cX4_advance 139 = .ok (.goto 4, 3) := by decide +kernel
theorem dX4_advance_142 : decode cX4_advance 142 = .ok (.iconst 1, 1) := by decide +kernel
theorem dX4_advance_143 : decode cX4_advance 143 = .ok (.putfield 54, 3) := by decide +kernel
theorem dX4_advance_146 : decode cX4_advance 146 = .ok (.goto 97, 3) := by decide +kernel
theorem dX4_advance_149 : decode cX4_advance 149 = .ok (.aload_n 0, 1) := by decide +kernel
theorem dX4_advance_150 : decode cX4_advance 150 = .ok (.getfield 9, 3) := by decide +kernel
theorem dX4_advance_153 : decode cX4_advance 153 = .ok (.aload_n 0, 1) := by decide +kernel
theorem dX4_advance_154 : decode cX4_advance 154 = .ok (.getfield 51, 3) := by decide +kernel
theorem dX4_advance_157 : decode cX4_advance 157 = .ok (.baload, 1) := by decide +kernel
theorem dX4_advance_158 : decode cX4_advance 158 = .ok (.bipush 48, 2) := by decide +kernel
theorem dX4_advance_160 : decode cX4_advance 160 = .ok (.if_icmp .lt 50, 3) := by decide +kernel
theorem dX4_advance_163 : decode cX4_advance 163 = .ok (.aload_n 0, 1) := by decide +kernel
theorem dX4_advance_164 : decode cX4_advance 164 = .ok (.getfield 9, 3) := by decide +kernel
theorem dX4_advance_167 : decode cX4_advance 167 = .ok (.aload_n 0, 1) := by decide +kernel
theorem dX4_advance_168 : decode cX4_advance 168 = .ok (.getfield 51, 3) := by decide +kernel
theorem dX4_advance_171 : decode cX4_advance 171 = .ok (.baload, 1) := by decide +kernel
theorem dX4_advance_172 : decode cX4_advance 172 = .ok (.bipush 57, 2) := by decide +kernel
theorem dX4_advance_174 : decode cX4_advance 174 = .ok (.if_icmp .gt 36, 3) := by decide +kernel
theorem dX4_advance_177 : decode cX4_advance 177 = .ok (.aload_n 0, 1) := by decide +kernel
theorem dX4_advance_178 : decode cX4_advance 178 = .ok (.bipush 48, 2) := by decide +kernel
theorem dX4_advance_180 : decode cX4_advance 180 = .ok (.bipush 57, 2) := by decide +kernel
theorem dX4_advance_182 : decode cX4_advance 182 = .ok (.invokevirtual 57, 3) := by decide +kernel
theorem dX4_advance_185 : decode cX4_advance 185 = .ok (.aload_n 0, 1) := by decide +kernel
theorem dX4_advance_186 : decode cX4_advance 186 = .ok (.aload_n 0, 1) := by decide +kernel
theorem dX4_advance_187 : decode cX4_advance 187 = .ok (.getfield 45, 3) := by decide +kernel
theorem dX4_advance_190 : decode cX4_advance 190 = .ok (.aload_n 0, 1) := by decide +kernel
theorem dX4_advance_191 : decode cX4_advance 191 = .ok (.getfield 51, 3) := by decide +kernel
theorem dX4_advance_194 : decode cX4_advance 194 = .ok (.isub, 1) := by decide +kernel
theorem dX4_advance_195 : decode cX4_advance 195 = .ok (.iconst 3, 1) := by decide +kernel
theorem dX4_advance_196 : decode cX4_advance 196 = .ok (.if_icmp .le 7, 3) := by decide +kernel
theorem dX4_advance_199 : decode cX4_advance 199 = .ok (.iconst 4, 1) := by decide +kernel
theorem dX4_advance_200 : decode cX4_advance 200 = .ok (.goto 4, 3) := by decide +kernel
theorem dX4_advance_203 : decode cX4_advance 203 = .ok (.iconst 2, 1) := by decide +kernel
theorem dX4_advance_204 : decode cX4_advance 204 = .ok (.putfield 54, 3) := by decide +kernel
theorem dX4_advance_207 : decode cX4_advance 207 = .ok (.goto 36, 3) := by decide +kernel
theorem dX4_advance_210 : decode cX4_advance 210 = .ok (.aload_n 0, 1) := by decide +kernel
theorem dX4_advance_211 : decode cX4_advance 211 = .ok (.aload_n 0, 1) := by decide +kernel
theorem dX4_advance_212 : decode cX4_advance 212 = .ok (.getfield 9, 3) := by decide +kernel
theorem dX4_advance_215 : decode cX4_advance 215 = .ok (.aload_n 0, 1) := by decide +kernel
theorem dX4_advance_216 : decode cX4_advance 216 = .ok (.getfield 51, 3) := by decide +kernel
theorem dX4_advance_219 : decode cX4_advance 219 = .ok (.baload, 1) := by decide +kernel
theorem dX4_advance_220 : decode cX4_advance 220 = .ok (.bipush 59, 2) := by decide +kernel
theorem dX4_advance_222 : decode cX4_advance 222 = .ok (.if_icmp .ne 7, 3) := by decide +kernel
theorem dX4_advance_225 : decode cX4_advance 225 = .ok (.iconst 3, 1) := by decide +kernel
theorem dX4_advance_226 : decode cX4_advance 226 = .ok (.goto 4, 3) := by decide +kernel
theorem dX4_advance_229 : decode cX4_advance 229 = .ok (.iconst 4, 1) := by decide +kernel
theorem dX4_advance_230 : decode cX4_advance 230 = .ok (.putfield 54, 3) := by decide +kernel
theorem dX4_advance_233 : decode cX4_advance 233 = .ok (.aload_n 0, 1) := by decide +kernel
theorem dX4_advance_234 : decode cX4_advance 234 = .ok (.aload_n 0, 1) := by decide +kernel
theorem dX4_advance_235 : decode cX4_advance 235 = .ok (.getfield 51, 3) := by decide +kernel
theorem dX4_advance_238 : decode cX4_advance 238 = .ok (.iconst 1, 1) := by decide +kernel
theorem dX4_advance_239 : decode cX4_advance 239 = .ok (.iadd, 1) := by decide +kernel
theorem dX4_advance_240 : decode cX4_advance 240 = .ok (.putfield 45, 3) := by decide +kernel
theorem dX4_advance_243 : decode cX4_advance 243 = .ok (.return_, 1) := by decide +kernel
theorem dX4_endRun_0 : decode cX4_endRun 0 = .ok (.aload_n 0, 1) := by decide +kernel
theorem dX4_endRun_1 : decode cX4_endRun 1 = .ok (.getfield 45, 3) := by decide +kernel
theorem dX4_endRun_4 : decode cX4_endRun 4 = .ok (.aload_n 0, 1) := by decide +kernel
theorem dX4_endRun_5 : decode cX4_endRun 5 = .ok (.getfield 40, 3) := by decide +kernel
theorem dX4_endRun_8 : decode cX4_endRun 8 = .ok (.if_icmp .ge 42, 3) := by decide +kernel
theorem dX4_endRun_11 : decode cX4_endRun 11 = .ok (.aload_n 0, 1) := by decide +kernel
theorem dX4_endRun_12 : decode cX4_endRun 12 = .ok (.getfield 9, 3) := by decide +kernel
theorem dX4_endRun_15 : decode cX4_endRun 15 = .ok (.aload_n 0, 1) := by decide +kernel
theorem dX4_endRun_16 : decode cX4_endRun 16 = .ok (.getfield 45, 3) := by decide +kernel
theorem dX4_endRun_19 : decode cX4_endRun 19 = .ok (.baload, 1) := by decide +kernel
theorem dX4_endRun_20 : decode cX4_endRun 20 = .ok (.iload_n 1, 1) := by decide +kernel
theorem dX4_endRun_21 : decode cX4_endRun 21 = .ok (.if_icmp .lt 29, 3) := by decide +kernel
theorem dX4_endRun_24 : decode cX4_endRun 24 = .ok (.aload_n 0, 1) := by decide +kernel
theorem dX4_endRun_25 : decode cX4_endRun 25 = .ok (.getfield 9, 3) := by decide +kernel
theorem dX4_endRun_28 : decode cX4_endRun 28 = .ok (.aload_n 0, 1) := by decide +kernel
theorem dX4_endRun_29 : decode cX4_endRun 29 = .ok (.getfield 45, 3) := by decide +kernel
theorem dX4_endRun_32 : decode cX4_endRun 32 = .ok (.baload, 1) := by decide +kernel
theorem dX4_endRun_33 : decode cX4_endRun 33 = .ok (.iload_n 2, 1) := by decide +kernel
theorem dX4_endRun_34 : decode cX4_endRun 34 = .ok (.if_icmp .gt 16, 3) := by decide +kernel
theorem dX4_endRun_37 : decode cX4_endRun 37 = .ok (.aload_n 0, 1) := by decide +kernel
theorem dX4_endRun_38 : decode cX4_endRun 38 = .ok (.dup, 1) := by decide +kernel
theorem dX4_endRun_39 : decode cX4_endRun 39 = .ok (.getfield 45, 3) := by decide +kernel
theorem dX4_endRun_42 : decode cX4_endRun 42 = .ok (.iconst 1, 1) := by decide +kernel
theorem dX4_endRun_43 : decode cX4_endRun 43 = .ok (.iadd, 1) := by decide +kernel
theorem dX4_endRun_44 : decode cX4_endRun 44 = .ok (.putfield 45, 3) := by decide +kernel
theorem dX4_endRun_47 : decode cX4_endRun 47 = .ok (.goto (-47), 3) := by decide +kernel
theorem dX4_endRun_50 : decode cX4_endRun 50 = .ok (.return_, 1) := by decide +kernel
theorem dX4_fail_0 : decode cX4_fail 0 = .ok (.aload_n 0, 1) := by decide +kernel
theorem dX4_fail_1 : decode cX4_fail 1 = .ok (.iload_n 1, 1) := by decide +kernel
theorem dX4_fail_2 : decode cX4_fail 2 = .ok (.putfield 42, 3) := by decide +kernel
theorem dX4_fail_5 : decode cX4_fail 5 = .ok (.aload_n 0, 1) := by decide +kernel
theorem dX4_fail_6 : decode cX4_fail 6 = .ok (.aload_n 0, 1) := by decide +kernel
theorem dX4_fail_7 : decode cX4_fail 7 = .ok (.getfield 51, 3) := by decide +kernel
theorem dX4_fail_10 : decode cX4_fail 10 = .ok (.putfield 22, 3) := by decide +kernel
theorem dX4_fail_13 : decode cX4_fail 13 = .ok (.iconst 0, 1) := by decide +kernel
theorem dX4_fail_14 : decode cX4_fail 14 = .ok (.ireturn, 1) := by decide +kernel
theorem dX4_isAtWord_0 : decode cX4_isAtWord 0 = .ok (.aload_n 0, 1) := by decide +kernel
theorem dX4_isAtWord_1 : decode cX4_isAtWord 1 = .ok (.getfield 54, 3) := by decide +kernel
theorem dX4_isAtWord_4 : decode cX4_isAtWord 4 = .ok (.iconst 1, 1) := by decide +kernel
theorem dX4_isAtWord_5 : decode cX4_isAtWord 5 = .ok (.if_icmp .ne 19, 3) := by decide +kernel
theorem dX4_isAtWord_8 : decode cX4_isAtWord 8 = .ok (.aload_n 0, 1) := by decide +kernel
theorem dX4_isAtWord_9 : decode cX4_isAtWord 9 = .ok (.getfield 45, 3) := by decide +kernel
theorem dX4_isAtWord_12 : decode cX4_isAtWord 12 = .ok (.aload_n 0, 1) := by decide +kernel
theorem dX4_isAtWord_13 : decode cX4_isAtWord 13 = .ok (.getfield 51, 3) := by decide +kernel
theorem dX4_isAtWord_16 : decode cX4_isAtWord 16 = .ok (.isub, 1) := by decide +kernel
theorem dX4_isAtWord_17 : decode cX4_isAtWord 17 = .ok (.aload_n 1, 1) := by decide +kernel
theorem dX4_isAtWord_18 : decode cX4_isAtWord 18 = .ok (.invokevirtual 26, 3) := by decide +kernel
theorem dX4_isAtWord_21 : decode cX4_isAtWord 21 = .ok (.if_icmp .eq 5, 3) := by decide +kernel
theorem dX4_isAtWord_24 : decode cX4_isAtWord 24 = .ok (.iconst 0, 1) := by decide +kernel
theorem dX4_isAtWord_25 : decode cX4_isAtWord 25 = .ok (.ireturn, 1) := by decide +kernel
theorem dX4_isAtWord_26 : decode cX4_isAtWord 26 = .ok (.iconst 0, 1) := by decide +kernel
theorem dX4_isAtWord_27 : decode cX4_isAtWord 27 = .ok (.istore_n 2, 1) := by decide +kernel
theorem dX4_isAtWord_28 : decode cX4_isAtWord 28 = .ok (.iload_n 2, 1) := by decide +kernel
theorem dX4_isAtWord_29 : decode cX4_isAtWord 29 = .ok (.aload_n 1, 1) := by decide +kernel
theorem dX4_isAtWord_30 : decode cX4_isAtWord 30 = .ok (.invokevirtual 26, 3) := by decide +kernel
theorem dX4_isAtWord_33 : decode cX4_isAtWord 33 = .ok (.if_icmp .ge 30, 3) := by decide +kernel
theorem dX4_isAtWord_36 : decode cX4_isAtWord 36 = .ok (.aload_n 0, 1) := by decide +kernel
theorem dX4_isAtWord_37 : decode cX4_isAtWord 37 = .ok (.getfield 9, 3) := by decide +kernel
theorem dX4_isAtWord_40 : decode cX4_isAtWord 40 = .ok (.aload_n 0, 1) := by decide +kernel
theorem dX4_isAtWord_41 : decode cX4_isAtWord 41 = .ok (.getfield 51, 3) := by decide +kernel
theorem dX4_isAtWord_44 : decode cX4_isAtWord 44 = .ok (.iload_n 2, 1) := by decide +kernel
theorem dX4_isAtWord_45 : decode cX4_isAtWord 45 = .ok (.iadd, 1) := by decide +kernel
theorem dX4_isAtWord_46 : decode cX4_isAtWord 46 = .ok (.baload, 1) := by decide +kernel
theorem dX4_isAtWord_47 : decode cX4_isAtWord 47 = .ok (.aload_n 1, 1) := by decide +kernel
theorem dX4_isAtWord_48 : decode cX4_isAtWord 48 = .ok (.iload_n 2, 1) := by decide +kernel
theorem dX4_isAtWord_49 : decode cX4_isAtWord 49 = .ok (.invokevirtual 32, 3) := by decide +kernel
theorem dX4_isAtWord_52 : decode cX4_isAtWord 52 = .ok (.if_icmp .eq 5, 3) := by decide +kernel
theorem dX4_isAtWord_55 : decode cX4_isAtWord 55 = .ok (.iconst 0, 1) := by decide +kernel
theorem dX4_isAtWord_56 : decode cX4_isAtWord 56 = .ok (.ireturn, 1) := by decide +kernel
theorem dX4_isAtWord_57 : decode cX4_isAtWord 57 = .ok (.iinc 2 1, 3) := by decide +kernel
theorem dX4_isAtWord_60 : decode cX4_isAtWord 60 = .ok (.goto (-32), 3) := by decide +kernel
theorem dX4_isAtWord_63 : decode cX4_isAtWord 63 = .ok (.iconst 1, 1) := by decide +kernel
theorem dX4_isAtWord_64 : decode cX4_isAtWord 64 = .ok (.ireturn, 1) := by decide +kernel
theorem dX4_takeKeyword_0 : decode cX4_takeKeyword 0 = .ok (.aload_n 0, 1) := by decide +kernel
theorem dX4_takeKeyword_1 : decode cX4_takeKeyword 1 = .ok (.aload_n 1, 1) := by decide +kernel
theorem dX4_takeKeyword_2 : decode cX4_takeKeyword 2 = .ok (.invokevirtual 61, 3) := by decide +kernel
theorem dX4_takeKeyword_5 : decode cX4_takeKeyword 5 = .ok (.ifCond .ne 9, 3) := by decide +kernel
theorem dX4_takeKeyword_8 : decode cX4_takeKeyword 8 = .ok (.aload_n 0, 1) := by decide +kernel
theorem dX4_takeKeyword_9 : decode cX4_takeKeyword 9 = .ok (.iconst 1, 1) := by decide +kernel
theorem dX4_takeKeyword_10 : decode cX4_takeKeyword 10 = .ok (.invokevirtual 65, 3) := by decide +kernel
theorem dX4_takeKeyword_13 : decode cX4_takeKeyword 13 = .ok (.ireturn, 1) := by decide +kernel
theorem dX4_takeKeyword_14 : decode cX4_takeKeyword 14 = .ok (.aload_n 0, 1) := by decide +kernel
theorem dX4_takeKeyword_15 : decode cX4_takeKeyword 15 = .ok (.invokevirtual 48, 3) := by decide +kernel
theorem dX4_takeKeyword_18 : decode cX4_takeKeyword 18 = .ok (.iconst 1, 1) := by decide +kernel
theorem dX4_takeKeyword_19 : decode cX4_takeKeyword 19 = .ok (.ireturn, 1) := by decide +kernel
theorem dX4_takeSemicolon_0 : decode cX4_takeSemicolon 0 = .ok (.aload_n 0, 1) := by decide +kernel
theorem dX4_takeSemicolon_1 : decode cX4_takeSemicolon 1 = .ok (.getfield 54, 3) := by decide +kernel
theorem dX4_takeSemicolon_4 : decode cX4_takeSemicolon 4 = .ok (.iconst 3, 1) := by decide +kernel
theorem dX4_takeSemicolon_5 : decode cX4_takeSemicolon 5 = .ok (.if_icmp .eq 9, 3) := by decide +kernel
theorem dX4_takeSemicolon_8 : decode cX4_takeSemicolon 8 = .ok (.aload_n 0, 1) := by decide +kernel
theorem dX4_takeSemicolon_9 : decode cX4_takeSemicolon 9 = .ok (.iconst 1, 1) := by decide +kernel
theorem dX4_takeSemicolon_10 : decode cX4_takeSemicolon 10 = .ok (.invokevirtual 65, 3) := by decide +kernel
theorem dX4_takeSemicolon_13 : decode cX4_takeSemicolon 13 = .ok (.ireturn, 1) := by decide +kernel
theorem dX4_takeSemicolon_14 : decode cX4_takeSemicolon 14 = .ok (.aload_n 0, 1) := by decide +kernel
theorem dX4_takeSemicolon_15 : decode cX4_takeSemicolon 15 = .ok (.invokevirtual 48, 3) := by decide +kernel
theorem dX4_takeSemicolon_18 : decode cX4_takeSemicolon 18 = .ok (.iconst 1, 1) := by decide +kernel
theorem dX4_takeSemicolon_19 : decode cX4_takeSemicolon 19 = .ok (.ireturn, 1) := by decide +kernel
theorem dX4_isAtName_0 : decode cX4_isAtName 0 = .ok (.aload_n 0, 1) := by decide +kernel
theorem dX4_isAtName_1 : decode cX4_isAtName 1 = .ok (.getfield 54, 3) := by decide +kernel
theorem dX4_isAtName_4 : decode cX4_isAtName 4 = .ok (.iconst 1, 1) := by decide +kernel
theorem dX4_isAtName_5 : decode cX4_isAtName 5 = .ok (.if_icmp .eq 9, 3) := by decide +kernel
theorem dX4_isAtName_8 : decode cX4_isAtName 8 = .ok (.aload_n 0, 1) := by decide +kernel
theorem dX4_isAtName_9 : decode cX4_isAtName 9 = .ok (.iconst 1, 1) := by decide +kernel
theorem dX4_isAtName_10 : decode cX4_isAtName 10 = .ok (.invokevirtual 65, 3) := by decide +kernel
theorem dX4_isAtName_13 : decode cX4_isAtName 13 = .ok (.ireturn, 1) := by decide +kernel
theorem dX4_isAtName_14 : decode cX4_isAtName 14 = .ok (.aload_n 0, 1) := by decide +kernel
theorem dX4_isAtName_15 : decode cX4_isAtName 15 = .ok (.getfield 45, 3) := by decide +kernel
theorem dX4_isAtName_18 : decode cX4_isAtName 18 = .ok (.aload_n 0, 1) := by decide +kernel
theorem dX4_isAtName_19 : decode cX4_isAtName 19 = .ok (.getfield 51, 3) := by decide +kernel
theorem dX4_isAtName_22 : decode cX4_isAtName 22 = .ok (.isub, 1) := by decide +kernel
theorem dX4_isAtName_23 : decode cX4_isAtName 23 = .ok (.bipush 6, 2) := by decide +kernel
theorem dX4_isAtName_25 : decode cX4_isAtName 25 = .ok (.if_icmp .le 11, 3) := by decide +kernel
theorem dX4_isAtName_28 : decode cX4_isAtName 28 = .ok (.aload_n 0, 1) := by decide +kernel
theorem dX4_isAtName_29 : decode cX4_isAtName 29 = .ok (.iconst 3, 1) := by decide +kernel
theorem dX4_isAtName_30 : decode cX4_isAtName 30 = .ok (.invokevirtual 65, 3) := by decide +kernel
theorem dX4_isAtName_33 : decode cX4_isAtName 33 = .ok (.ifCond .eq 7, 3) := by decide +kernel
theorem dX4_isAtName_36 : decode cX4_isAtName 36 = .ok (.iconst 1, 1) := by decide +kernel
theorem dX4_isAtName_37 : decode cX4_isAtName 37 = .ok (.goto 4, 3) := by decide +kernel
theorem dX4_isAtName_40 : decode cX4_isAtName 40 = .ok (.iconst 0, 1) := by decide +kernel
theorem dX4_isAtName_41 : decode cX4_isAtName 41 = .ok (.ireturn, 1) := by decide +kernel
theorem dX4_takeClerk_0 : decode cX4_takeClerk 0 = .ok (.aload_n 0, 1) := by decide +kernel
theorem dX4_takeClerk_1 : decode cX4_takeClerk 1 = .ok (.invokevirtual 69, 3) := by decide +kernel
theorem dX4_takeClerk_4 : decode cX4_takeClerk 4 = .ok (.ifCond .ne 5, 3) := by decide +kernel
theorem dX4_takeClerk_7 : decode cX4_takeClerk 7 = .ok (.iconst (-1), 1) := by decide +kernel
theorem dX4_takeClerk_8 : decode cX4_takeClerk 8 = .ok (.ireturn, 1) := by decide +kernel
theorem dX4_takeClerk_9 : decode cX4_takeClerk 9 = .ok (.aload_n 1, 1) := by decide +kernel
theorem dX4_takeClerk_10 : decode cX4_takeClerk 10 = .ok (.aload_n 0, 1) := by decide +kernel
theorem dX4_takeClerk_11 : decode cX4_takeClerk 11 = .ok (.getfield 9, 3) := by decide +kernel
theorem dX4_takeClerk_14 : decode cX4_takeClerk 14 = .ok (.aload_n 0, 1) := by decide +kernel
theorem dX4_takeClerk_15 : decode cX4_takeClerk 15 = .ok (.getfield 51, 3) := by decide +kernel
theorem dX4_takeClerk_18 : decode cX4_takeClerk 18 = .ok (.aload_n 0, 1) := by decide +kernel
theorem dX4_takeClerk_19 : decode cX4_takeClerk 19 = .ok (.getfield 45, 3) := by decide +kernel
theorem dX4_takeClerk_22 : decode cX4_takeClerk 22 = .ok (.invokevirtual 73, 3) := by decide +kernel
theorem dX4_takeClerk_25 : decode cX4_takeClerk 25 = .ok (.istore_n 2, 1) := by decide +kernel
theorem dX4_takeClerk_26 : decode cX4_takeClerk 26 = .ok (.iload_n 2, 1) := by decide +kernel
theorem dX4_takeClerk_27 : decode cX4_takeClerk 27 = .ok (.iconst (-1), 1) := by decide +kernel
theorem dX4_takeClerk_28 : decode cX4_takeClerk 28 = .ok (.if_icmp .ne 12, 3) := by decide +kernel
theorem dX4_takeClerk_31 : decode cX4_takeClerk 31 = .ok (.aload_n 0, 1) := by decide +kernel
theorem dX4_takeClerk_32 : decode cX4_takeClerk 32 = .ok (.iconst 3, 1) := by decide +kernel
theorem dX4_takeClerk_33 : decode cX4_takeClerk 33 = .ok (.invokevirtual 65, 3) := by decide +kernel
theorem dX4_takeClerk_36 : decode cX4_takeClerk 36 = .ok (.pop, 1) := by decide +kernel
theorem dX4_takeClerk_37 : decode cX4_takeClerk 37 = .ok (.goto 7, 3) := by decide +kernel
theorem dX4_takeClerk_40 : decode cX4_takeClerk 40 = .ok (.aload_n 0, 1) := by decide +kernel
theorem dX4_takeClerk_41 : decode cX4_takeClerk 41 = .ok (.invokevirtual 48, 3) := by decide +kernel
theorem dX4_takeClerk_44 : decode cX4_takeClerk 44 = .ok (.iload_n 2, 1) := by decide +kernel
theorem dX4_takeClerk_45 : decode cX4_takeClerk 45 = .ok (.ireturn, 1) := by decide +kernel
theorem dX4_takeNumbers_0 : decode cX4_takeNumbers 0 = .ok (.iconst 0, 1) := by decide +kernel
theorem dX4_takeNumbers_1 : decode cX4_takeNumbers 1 = .ok (.istore_n 3, 1) := by decide +kernel
theorem dX4_takeNumbers_2 : decode cX4_takeNumbers 2 = .ok (.iload_n 3, 1) := by decide +kernel
theorem dX4_takeNumbers_3 : decode cX4_takeNumbers 3 = .ok (.aload_n 1, 1) := by decide +kernel
theorem dX4_takeNumbers_4 : decode cX4_takeNumbers 4 = .ok (.arraylength, 1) := by decide +kernel
theorem dX4_takeNumbers_5 : decode cX4_takeNumbers 5 = .ok (.if_icmp .ge 62, 3) := by decide +kernel
theorem dX4_takeNumbers_8 : decode cX4_takeNumbers 8 = .ok (.iload_n 3, 1) := by decide +kernel
theorem dX4_takeNumbers_9 : decode cX4_takeNumbers 9 = .ok (.aload_n 2, 1) := by decide +kernel
theorem dX4_takeNumbers_10 : decode cX4_takeNumbers 10 = .ok (.arraylength, 1) := by decide +kernel
theorem dX4_takeNumbers_11 : decode cX4_takeNumbers 11 = .ok (.if_icmp .ge 56, 3) := by decide +kernel
theorem dX4_takeNumbers_14 : decode cX4_takeNumbers 14 = .ok (.iload_n 3, 1) := by decide +kernel
theorem dX4_takeNumbers_15 : decode cX4_takeNumbers 15 = .ok (.aload_n 0, 1) := by decide +kernel
theorem dX4_takeNumbers_16 : decode cX4_takeNumbers 16 = .ok (.getfield 19, 3) := by decide +kernel
theorem dX4_takeNumbers_19 : decode cX4_takeNumbers 19 = .ok (.arraylength, 1) := by decide +kernel
theorem dX4_takeNumbers_20 : decode cX4_takeNumbers 20 = .ok (.if_icmp .ge 47, 3) := by decide +kernel
theorem dX4_takeNumbers_23 : decode cX4_takeNumbers 23 = .ok (.aload_n 0, 1) := by decide +kernel
theorem dX4_takeNumbers_24 : decode cX4_takeNumbers 24 = .ok (.iload_n 3, 1) := by decide +kernel
theorem dX4_takeNumbers_25 : decode cX4_takeNumbers 25 = .ok (.invokevirtual 79, 3) := by decide +kernel
theorem dX4_takeNumbers_28 : decode cX4_takeNumbers 28 = .ok (.ifCond .ne 5, 3) := by decide +kernel
theorem dX4_takeNumbers_31 : decode cX4_takeNumbers 31 = .ok (.iconst 0, 1) := by decide +kernel
theorem dX4_takeNumbers_32 : decode cX4_takeNumbers 32 = .ok (.ireturn, 1) := by decide +kernel
theorem dX4_takeNumbers_33 : decode cX4_takeNumbers 33 = .ok (.aload_n 0, 1) := by decide +kernel
theorem dX4_takeNumbers_34 : decode cX4_takeNumbers 34 = .ok (.getfield 19, 3) := by decide +kernel
theorem dX4_takeNumbers_37 : decode cX4_takeNumbers 37 = .ok (.iload_n 3, 1) := by decide +kernel
theorem dX4_takeNumbers_38 : decode cX4_takeNumbers 38 = .ok (.iaload, 1) := by decide +kernel
theorem dX4_takeNumbers_39 : decode cX4_takeNumbers 39 = .ok (.aload_n 1, 1) := by decide +kernel
theorem dX4_takeNumbers_40 : decode cX4_takeNumbers 40 = .ok (.iload_n 3, 1) := by decide +kernel
theorem dX4_takeNumbers_41 : decode cX4_takeNumbers 41 = .ok (.iaload, 1) := by decide +kernel
theorem dX4_takeNumbers_42 : decode cX4_takeNumbers 42 = .ok (.aload_n 2, 1) := by decide +kernel
theorem dX4_takeNumbers_43 : decode cX4_takeNumbers 43 = .ok (.iload_n 3, 1) := by decide +kernel
theorem dX4_takeNumbers_44 : decode cX4_takeNumbers 44 = .ok (.iaload, 1) := by decide +kernel
theorem dX4_takeNumbers_45 : decode cX4_takeNumbers 45 = .ok (.invokestatic 82, 3) := by decide +kernel
theorem dX4_takeNumbers_48 : decode cX4_takeNumbers 48 = .ok (.ifCond .eq 9, 3) := by decide +kernel
theorem dX4_takeNumbers_51 : decode cX4_takeNumbers 51 = .ok (.aload_n 0, 1) := by decide +kernel
theorem dX4_takeNumbers_52 : decode cX4_takeNumbers 52 = .ok (.iconst 2, 1) := by decide +kernel
theorem dX4_takeNumbers_53 : decode cX4_takeNumbers 53 = .ok (.invokevirtual 65, 3) := by decide +kernel
theorem dX4_takeNumbers_56 : decode cX4_takeNumbers 56 = .ok (.ireturn, 1) := by decide +kernel
theorem dX4_takeNumbers_57 : decode cX4_takeNumbers 57 = .ok (.aload_n 0, 1) := by decide +kernel
theorem dX4_takeNumbers_58 : decode cX4_takeNumbers 58 = .ok (.invokevirtual 48, 3) := by decide +kernel
theorem dX4_takeNumbers_61 : decode cX4_takeNumbers 61 = .ok (.iinc 3 1, 3) := by decide +kernel
theorem dX4_takeNumbers_64 : decode cX4_takeNumbers 64 = .ok (.goto (-62), 3) := by decide +kernel
theorem dX4_takeNumbers_67 : decode cX4_takeNumbers 67 = .ok (.iconst 1, 1) := by decide +kernel
theorem dX4_takeNumbers_68 : decode cX4_takeNumbers 68 = .ok (.ireturn, 1) := by decide +kernel
theorem dX4_takeAnyNumbers_0 : decode cX4_takeAnyNumbers 0 = .ok (.iconst 0, 1) := by decide +kernel
theorem dX4_takeAnyNumbers_1 : decode cX4_takeAnyNumbers 1 = .ok (.istore_n 2, 1) := by decide +kernel
theorem dX4_takeAnyNumbers_2 : decode cX4_takeAnyNumbers 2 = .ok (.iload_n 2, 1) := by decide +kernel
theorem dX4_takeAnyNumbers_3 : decode cX4_takeAnyNumbers 3 = .ok (.iload_n 1, 1) := by decide +kernel
theorem dX4_takeAnyNumbers_4 : decode cX4_takeAnyNumbers 4 = .ok (.if_icmp .ge 32, 3) := by decide +kernel
theorem dX4_takeAnyNumbers_7 : decode cX4_takeAnyNumbers 7 = .ok (.iload_n 2, 1) := by decide +kernel
theorem dX4_takeAnyNumbers_8 : decode cX4_takeAnyNumbers 8 = .ok (.aload_n 0, 1) := by decide +kernel
theorem dX4_takeAnyNumbers_9 : decode cX4_takeAnyNumbers 9 = .ok (.getfield 19, 3) := by decide +kernel
theorem dX4_takeAnyNumbers_12 : decode cX4_takeAnyNumbers 12 = .ok (.arraylength, 1) := by decide +kernel
theorem dX4_takeAnyNumbers_13 : decode cX4_takeAnyNumbers 13 = .ok (.if_icmp .ge 23, 3) := by decide +kernel
theorem dX4_takeAnyNumbers_16 : decode cX4_takeAnyNumbers 16 = .ok (.aload_n 0, 1) := by decide +kernel
theorem dX4_takeAnyNumbers_17 : decode cX4_takeAnyNumbers 17 = .ok (.iload_n 2, 1) := by decide +kernel
theorem dX4_takeAnyNumbers_18 : decode cX4_takeAnyNumbers 18 = .ok (.invokevirtual 79, 3) := by decide +kernel
theorem dX4_takeAnyNumbers_21 : decode cX4_takeAnyNumbers 21 = .ok (.ifCond .ne 5, 3) := by decide +kernel
theorem dX4_takeAnyNumbers_24 : decode cX4_takeAnyNumbers 24 = .ok (.iconst 0, 1) := by decide +kernel
theorem dX4_takeAnyNumbers_25 : decode cX4_takeAnyNumbers 25 = .ok (.ireturn, 1) := by decide +kernel
theorem dX4_takeAnyNumbers_26 : decode cX4_takeAnyNumbers 26 = .ok (.aload_n 0, 1) := by decide +kernel
theorem dX4_takeAnyNumbers_27 : decode cX4_takeAnyNumbers 27 = .ok (.invokevirtual 48, 3) := by decide +kernel
theorem dX4_takeAnyNumbers_30 : decode cX4_takeAnyNumbers 30 = .ok (.iinc 2 1, 3) := by decide +kernel
theorem dX4_takeAnyNumbers_33 : decode cX4_takeAnyNumbers 33 = .ok (.goto (-31), 3) := by decide +kernel
theorem dX4_takeAnyNumbers_36 : decode cX4_takeAnyNumbers 36 = .ok (.iconst 1, 1) := by decide +kernel
theorem dX4_takeAnyNumbers_37 : decode cX4_takeAnyNumbers 37 = .ok (.ireturn, 1) := by decide +kernel
theorem dX4_takeNumber_0 : decode cX4_takeNumber 0 = .ok (.aload_n 0, 1) := by decide +kernel
theorem dX4_takeNumber_1 : decode cX4_takeNumber 1 = .ok (.getfield 54, 3) := by decide +kernel
theorem dX4_takeNumber_4 : decode cX4_takeNumber 4 = .ok (.iconst 2, 1) := by decide +kernel
theorem dX4_takeNumber_5 : decode cX4_takeNumber 5 = .ok (.if_icmp .eq 9, 3) := by decide +kernel
theorem dX4_takeNumber_8 : decode cX4_takeNumber 8 = .ok (.aload_n 0, 1) := by decide +kernel
theorem dX4_takeNumber_9 : decode cX4_takeNumber 9 = .ok (.iconst 1, 1) := by decide +kernel
theorem dX4_takeNumber_10 : decode cX4_takeNumber 10 = .ok (.invokevirtual 65, 3) := by decide +kernel
theorem dX4_takeNumber_13 : decode cX4_takeNumber 13 = .ok (.ireturn, 1) := by decide +kernel
theorem dX4_takeNumber_14 : decode cX4_takeNumber 14 = .ok (.iconst 0, 1) := by decide +kernel
theorem dX4_takeNumber_15 : decode cX4_takeNumber 15 = .ok (.istore_n 2, 1) := by decide +kernel
theorem dX4_takeNumber_16 : decode cX4_takeNumber 16 = .ok (.aload_n 0, 1) := by decide +kernel
theorem dX4_takeNumber_17 : decode cX4_takeNumber 17 = .ok (.getfield 51, 3) := by decide +kernel
theorem dX4_takeNumber_20 : decode cX4_takeNumber 20 = .ok (.istore_n 3, 1) := by decide +kernel
theorem dX4_takeNumber_21 : decode cX4_takeNumber 21 = .ok (.iload_n 3, 1) := by decide +kernel
theorem dX4_takeNumber_22 : decode cX4_takeNumber 22 = .ok (.aload_n 0, 1) := by decide +kernel
theorem dX4_takeNumber_23 : decode cX4_takeNumber 23 = .ok (.getfield 45, 3) := by decide +kernel
theorem dX4_takeNumber_26 : decode cX4_takeNumber 26 = .ok (.if_icmp .ge 24, 3) := by decide +kernel
theorem dX4_takeNumber_29 : decode cX4_takeNumber 29 = .ok (.iload_n 2, 1) := by decide +kernel
theorem dX4_takeNumber_30 : decode cX4_takeNumber 30 = .ok (.bipush 10, 2) := by decide +kernel
theorem dX4_takeNumber_32 : decode cX4_takeNumber 32 = .ok (.imul, 1) := by decide +kernel
theorem dX4_takeNumber_33 : decode cX4_takeNumber 33 = .ok (.aload_n 0, 1) := by decide +kernel
theorem dX4_takeNumber_34 : decode cX4_takeNumber 34 = .ok (.getfield 9, 3) := by decide +kernel
theorem dX4_takeNumber_37 : decode cX4_takeNumber 37 = .ok (.iload_n 3, 1) := by decide +kernel
theorem dX4_takeNumber_38 : decode cX4_takeNumber 38 = .ok (.baload, 1) := by decide +kernel
theorem dX4_takeNumber_39 : decode cX4_takeNumber 39 = .ok (.iadd, 1) := by decide +kernel
theorem dX4_takeNumber_40 : decode cX4_takeNumber 40 = .ok (.bipush 48, 2) := by decide +kernel
theorem dX4_takeNumber_42 : decode cX4_takeNumber 42 = .ok (.isub, 1) := by decide +kernel
theorem dX4_takeNumber_43 : decode cX4_takeNumber 43 = .ok (.istore_n 2, 1) := by decide +kernel
theorem dX4_takeNumber_44 : decode cX4_takeNumber 44 = .ok (.iinc 3 1, 3) := by decide +kernel
theorem dX4_takeNumber_47 : decode cX4_takeNumber 47 = .ok (.goto (-26), 3) := by decide +kernel
theorem dX4_takeNumber_50 : decode cX4_takeNumber 50 = .ok (.aload_n 0, 1) := by decide +kernel
theorem dX4_takeNumber_51 : decode cX4_takeNumber 51 = .ok (.getfield 19, 3) := by decide +kernel
theorem dX4_takeNumber_54 : decode cX4_takeNumber 54 = .ok (.iload_n 1, 1) := by decide +kernel
theorem dX4_takeNumber_55 : decode cX4_takeNumber 55 = .ok (.iload_n 2, 1) := by decide +kernel
theorem dX4_takeNumber_56 : decode cX4_takeNumber 56 = .ok (.iastore, 1) := by decide +kernel
theorem dX4_takeNumber_57 : decode cX4_takeNumber 57 = .ok (.iconst 1, 1) := by decide +kernel
theorem dX4_takeNumber_58 : decode cX4_takeNumber 58 = .ok (.ireturn, 1) := by decide +kernel
theorem dX5_init_0 : decode cX5_init 0 = .ok (.aload_n 0, 1) := by decide +kernel
theorem dX5_init_1 : decode cX5_init 1 = .ok (.invokespecial 3, 3) := by decide +kernel
theorem dX5_init_4 : decode cX5_init 4 = .ok (.aload_n 0, 1) := by decide +kernel
theorem dX5_init_5 : decode cX5_init 5 = .ok (.iconst (-1), 1) := by decide +kernel
theorem dX5_init_6 : decode cX5_init 6 = .ok (.putfield 9, 3) := by decide +kernel
theorem dX5_init_9 : decode cX5_init 9 = .ok (.return_, 1) := by decide +kernel
theorem dX5_copyFrom_0 : decode cX5_copyFrom 0 = .ok (.aload_n 0, 1) := by decide +kernel
theorem dX5_copyFrom_1 : decode cX5_copyFrom 1 = .ok (.aload_n 1, 1) := by decide +kernel
theorem dX5_copyFrom_2 : decode cX5_copyFrom 2 = .ok (.getfield 15, 3) := by decide +kernel
theorem dX5_copyFrom_5 : decode cX5_copyFrom 5 = .ok (.putfield 15, 3) := by decide +kernel
theorem dX5_copyFrom_8 : decode cX5_copyFrom 8 = .ok (.aload_n 0, 1) := by decide +kernel
theorem dX5_copyFrom_9 : decode cX5_copyFrom 9 = .ok (.aload_n 1, 1) := by decide +kernel
theorem dX5_copyFrom_10 : decode cX5_copyFrom 10 = .ok (.getfield 18, 3) := by decide +kernel
theorem dX5_copyFrom_13 : decode cX5_copyFrom 13 = .ok (.putfield 18, 3) := by decide +kernel
theorem dX5_copyFrom_16 : decode cX5_copyFrom 16 = .ok (.aload_n 0, 1) := by decide +kernel
theorem dX5_copyFrom_17 : decode cX5_copyFrom 17 = .ok (.aload_n 1, 1) := by decide +kernel
theorem dX5_copyFrom_18 : decode cX5_copyFrom 18 = .ok (.getfield 21, 3) := by decide +kernel
theorem dX5_copyFrom_21 : decode cX5_copyFrom 21 = .ok (.putfield 21, 3) := by decide +kernel
theorem dX5_copyFrom_24 : decode cX5_copyFrom 24 = .ok (.aload_n 0, 1) := by decide +kernel
theorem dX5_copyFrom_25 : decode cX5_copyFrom 25 = .ok (.aload_n 1, 1) := by decide +kernel
theorem dX5_copyFrom_26 : decode cX5_copyFrom 26 = .ok (.getfield 24, 3) := by decide +kernel
theorem dX5_copyFrom_29 : decode cX5_copyFrom 29 = .ok (.putfield 24, 3) := by decide +kernel
theorem dX5_copyFrom_32 : decode cX5_copyFrom 32 = .ok (.aload_n 0, 1) := by decide +kernel
theorem dX5_copyFrom_33 : decode cX5_copyFrom 33 = .ok (.aload_n 1, 1) := by decide +kernel
theorem dX5_copyFrom_34 : decode cX5_copyFrom 34 = .ok (.getfield 27, 3) := by decide +kernel
theorem dX5_copyFrom_37 : decode cX5_copyFrom 37 = .ok (.putfield 27, 3) := by decide +kernel
theorem dX5_copyFrom_40 : decode cX5_copyFrom 40 = .ok (.aload_n 0, 1) := by decide +kernel
theorem dX5_copyFrom_41 : decode cX5_copyFrom 41 = .ok (.aload_n 1, 1) := by decide +kernel
theorem dX5_copyFrom_42 : decode cX5_copyFrom 42 = .ok (.getfield 30, 3) := by decide +kernel
theorem dX5_copyFrom_45 : decode cX5_copyFrom 45 = .ok (.putfield 30, 3) := by decide +kernel
theorem dX5_copyFrom_48 : decode cX5_copyFrom 48 = .ok (.aload_n 0, 1) := by decide +kernel
theorem dX5_copyFrom_49 : decode cX5_copyFrom 49 = .ok (.aload_n 1, 1) := by decide +kernel
theorem dX5_copyFrom_50 : decode cX5_copyFrom 50 = .ok (.getfield 9, 3) := by decide +kernel
theorem dX5_copyFrom_53 : decode cX5_copyFrom 53 = .ok (.putfield 9, 3) := by decide +kernel
theorem dX5_copyFrom_56 : decode cX5_copyFrom 56 = .ok (.aload_n 0, 1) := by decide +kernel
theorem dX5_copyFrom_57 : decode cX5_copyFrom 57 = .ok (.aload_n 1, 1) := by decide +kernel
theorem dX5_copyFrom_58 : decode cX5_copyFrom 58 = .ok (.getfield 33, 3) := by decide +kernel
theorem dX5_copyFrom_61 : decode cX5_copyFrom 61 = .ok (.putfield 33, 3) := by decide +kernel
theorem dX5_copyFrom_64 : decode cX5_copyFrom 64 = .ok (.return_, 1) := by decide +kernel
theorem dX5_isReadyAt_0 : decode cX5_isReadyAt 0 = .ok (.aload_n 0, 1) := by decide +kernel
theorem dX5_isReadyAt_1 : decode cX5_isReadyAt 1 = .ok (.getfield 21, 3) := by decide +kernel
theorem dX5_isReadyAt_4 : decode cX5_isReadyAt 4 = .ok (.iload_n 1, 1) := by decide +kernel
theorem dX5_isReadyAt_5 : decode cX5_isReadyAt 5 = .ok (.if_icmp .gt 14, 3) := by decide +kernel
theorem dX5_isReadyAt_8 : decode cX5_isReadyAt 8 = .ok (.aload_n 0, 1) := by decide +kernel
theorem dX5_isReadyAt_9 : decode cX5_isReadyAt 9 = .ok (.getfield 30, 3) := by decide +kernel
theorem dX5_isReadyAt_12 : decode cX5_isReadyAt 12 = .ok (.ifCond .le 7, 3) := by decide +kernel
theorem dX5_isReadyAt_15 : decode cX5_isReadyAt 15 = .ok (.iconst 1, 1) := by decide +kernel
theorem dX5_isReadyAt_16 : decode cX5_isReadyAt 16 = .ok (.goto 4, 3) := by decide +kernel
theorem dX5_isReadyAt_19 : decode cX5_isReadyAt 19 = .ok (.iconst 0, 1) := by decide +kernel
theorem dX5_isReadyAt_20 : decode cX5_isReadyAt 20 = .ok (.ireturn, 1) := by decide +kernel
theorem dX5_isLate_0 : decode cX5_isLate 0 = .ok (.aload_n 0, 1) := by decide +kernel
theorem dX5_isLate_1 : decode cX5_isLate 1 = .ok (.getfield 30, 3) := by decide +kernel
theorem dX5_isLate_4 : decode cX5_isLate 4 = .ok (.ifCond .ne 18, 3) := by decide +kernel
theorem dX5_isLate_7 : decode cX5_isLate 7 = .ok (.aload_n 0, 1) := by decide +kernel
theorem dX5_isLate_8 : decode cX5_isLate 8 = .ok (.getfield 9, 3) := by decide +kernel
theorem dX5_isLate_11 : decode cX5_isLate 11 = .ok (.aload_n 0, 1) := by decide +kernel
theorem dX5_isLate_12 : decode cX5_isLate 12 = .ok (.getfield 24, 3) := by decide +kernel
theorem dX5_isLate_15 : decode cX5_isLate 15 = .ok (.if_icmp .le 7, 3) := by decide +kernel
theorem dX5_isLate_18 : decode cX5_isLate 18 = .ok (.iconst 1, 1) := by decide +kernel
theorem dX5_isLate_19 : decode cX5_isLate 19 = .ok (.goto 4, 3) := by decide +kernel
theorem dX5_isLate_22 : decode cX5_isLate 22 = .ok (.iconst 0, 1) := by decide +kernel
theorem dX5_isLate_23 : decode cX5_isLate 23 = .ok (.ireturn, 1) := by decide +kernel
theorem dX5_waitedAt_0 : decode cX5_waitedAt 0 = .ok (.aload_n 0, 1) := by decide +kernel
theorem dX5_waitedAt_1 : decode cX5_waitedAt 1 = .ok (.getfield 21, 3) := by decide +kernel
theorem dX5_waitedAt_4 : decode cX5_waitedAt 4 = .ok (.iload_n 1, 1) := by decide +kernel
theorem dX5_waitedAt_5 : decode cX5_waitedAt 5 = .ok (.if_icmp .le 5, 3) := by decide +kernel
theorem dX5_waitedAt_8 : decode cX5_waitedAt 8 = .ok (.iconst 0, 1) := by decide +kernel
theorem dX5_waitedAt_9 : decode cX5_waitedAt 9 = .ok (.ireturn, 1) := by decide +kernel
theorem dX5_waitedAt_10 : decode cX5_waitedAt 10 = .ok (.aload_n 0, 1) := by decide +kernel
theorem dX5_waitedAt_11 : decode cX5_waitedAt 11 = .ok (.getfield 30, 3) := by decide +kernel
theorem dX5_waitedAt_14 : decode cX5_waitedAt 14 = .ok (.ifCond .ne 10, 3) := by decide +kernel
theorem dX5_waitedAt_17 : decode cX5_waitedAt 17 = .ok (.aload_n 0, 1) := by decide +kernel
theorem dX5_waitedAt_18 : decode cX5_waitedAt 18 = .ok (.getfield 9, 3) := by decide +kernel
theorem dX5_waitedAt_21 : decode cX5_waitedAt 21 = .ok (.goto 4, 3) := by decide +kernel
theorem dX5_waitedAt_24 : decode cX5_waitedAt 24 = .ok (.iload_n 1, 1) := by decide +kernel
theorem dX5_waitedAt_25 : decode cX5_waitedAt 25 = .ok (.istore_n 2, 1) := by decide +kernel
theorem dX5_waitedAt_26 : decode cX5_waitedAt 26 = .ok (.iload_n 2, 1) := by decide +kernel
theorem dX5_waitedAt_27 : decode cX5_waitedAt 27 = .ok (.aload_n 0, 1) := by decide +kernel
theorem dX5_waitedAt_28 : decode cX5_waitedAt 28 = .ok (.getfield 21, 3) := by decide +kernel
theorem dX5_waitedAt_31 : decode cX5_waitedAt 31 = .ok (.isub, 1) := by decide +kernel
theorem dX5_waitedAt_32 : decode cX5_waitedAt 32 = .ok (.aload_n 0, 1) := by decide +kernel
theorem dX5_waitedAt_33 : decode cX5_waitedAt 33 = .ok (.getfield 33, 3) := by decide +kernel
theorem dX5_waitedAt_36 : decode cX5_waitedAt 36 = .ok (.isub, 1) := by decide +kernel
theorem dX5_waitedAt_37 : decode cX5_waitedAt 37 = .ok (.ireturn, 1) := by decide +kernel
theorem dX6_init_0 : decode cX6_init 0 = .ok (.aload_n 0, 1) := by decide +kernel
theorem dX6_init_1 : decode cX6_init 1 = .ok (.invokespecial 3, 3) := by decide +kernel
theorem dX6_init_4 : decode cX6_init 4 = .ok (.aload_n 0, 1) := by decide +kernel
theorem dX6_init_5 : decode cX6_init 5 = .ok (.sipush 131, 3) := by decide +kernel
theorem dX6_init_8 : decode cX6_init 8 = .ok (.newarray .byte, 2) := by decide +kernel
theorem dX6_init_10 : decode cX6_init 10 = .ok (.putfield 9, 3) := by decide +kernel
theorem dX6_init_13 : decode cX6_init 13 = .ok (.return_, 1) := by decide +kernel
theorem dX6_put_0 : decode cX6_put 0 = .ok (.aload_n 0, 1) := by decide +kernel
theorem dX6_put_1 : decode cX6_put 1 = .ok (.getfield 15, 3) := by decide +kernel
theorem dX6_put_4 : decode cX6_put 4 = .ok (.sipush 131, 3) := by decide +kernel
theorem dX6_put_7 : decode cX6_put 7 = .ok (.if_icmp .ge 24, 3) := by decide +kernel
theorem dX6_put_10 : decode cX6_put 10 = .ok (.aload_n 0, 1) := by decide +kernel
theorem dX6_put_11 : decode cX6_put 11 = .ok (.getfield 9, 3) := by decide +kernel
theorem dX6_put_14 : decode cX6_put 14 = .ok (.aload_n 0, 1) := by decide +kernel
theorem dX6_put_15 : decode cX6_put 15 = .ok (.getfield 15, 3) := by decide +kernel
theorem dX6_put_18 : decode cX6_put 18 = .ok (.iload_n 1, 1) := by decide +kernel
theorem dX6_put_19 : decode cX6_put 19 = .ok (.i2b, 1) := by decide +kernel
theorem dX6_put_20 : decode cX6_put 20 = .ok (.bastore, 1) := by decide +kernel
theorem dX6_put_21 : decode cX6_put 21 = .ok (.aload_n 0, 1) := by decide +kernel
theorem dX6_put_22 : decode cX6_put 22 = .ok (.dup, 1) := by decide +kernel
theorem dX6_put_23 : decode cX6_put 23 = .ok (.getfield 15, 3) := by decide +kernel
theorem dX6_put_26 : decode cX6_put 26 = .ok (.iconst 1, 1) := by decide +kernel
theorem dX6_put_27 : decode cX6_put 27 = .ok (.iadd, 1) := by decide +kernel
theorem dX6_put_28 : decode cX6_put 28 = .ok (.putfield 15, 3) := by decide +kernel
theorem dX6_put_31 : decode cX6_put 31 = .ok (.return_, 1) := by decide +kernel
theorem dX7_init_0 : decode cX7_init 0 = .ok (.aload_n 0, 1) := by decide +kernel
theorem dX7_init_1 : decode cX7_init 1 = .ok (.invokespecial 3, 3) := by decide +kernel
theorem dX7_init_4 : decode cX7_init 4 = .ok (.aload_n 0, 1) := by decide +kernel
theorem dX7_init_5 : decode cX7_init 5 = .ok (.bipush 30, 2) := by decide +kernel
theorem dX7_init_7 : decode cX7_init 7 = .ok (.anewarray 9, 3) := by decide +kernel
theorem dX7_init_10 : decode cX7_init 10 = .ok (.putfield 11, 3) := by decide +kernel
theorem dX7_init_13 : decode cX7_init 13 = .ok (.iconst 0, 1) := by decide +kernel
theorem dX7_init_14 : decode cX7_init 14 = .ok (.istore_n 1, 1) := by decide +kernel
theorem dX7_init_15 : decode cX7_init 15 = .ok (.iload_n 1, 1) := by decide +kernel
theorem dX7_init_16 : decode cX7_init 16 = .ok (.bipush 30, 2) := by decide +kernel
theorem dX7_init_18 : decode cX7_init 18 = .ok (.if_icmp .ge 22, 3) := by decide +kernel
theorem dX7_init_21 : decode cX7_init 21 = .ok (.aload_n 0, 1) := by decide +kernel
theorem dX7_init_22 : decode cX7_init 22 = .ok (.getfield 11, 3) := by decide +kernel
theorem dX7_init_25 : decode cX7_init 25 = .ok (.iload_n 1, 1) := by decide +kernel
theorem dX7_init_26 : decode cX7_init 26 = .ok (.new 9, 3) := by decide +kernel
theorem dX7_init_29 : decode cX7_init 29 = .ok (.dup, 1) := by decide +kernel
theorem dX7_init_30 : decode cX7_init 30 = .ok (.invokespecial 17, 3) := by decide +kernel
theorem dX7_init_33 : decode cX7_init 33 = .ok (.aastore, 1) := by decide +kernel
theorem dX7_init_34 : decode cX7_init 34 = .ok (.iinc 1 1, 3) := by decide +kernel
theorem dX7_init_37 : decode cX7_init 37 = .ok (.goto (-22), 3) := by decide +kernel
theorem dX7_init_40 : decode cX7_init 40 = .ok (.return_, 1) := by decide +kernel
theorem dX7_read_0 : decode cX7_read 0 = .ok (.aload_n 1, 1) := by decide +kernel
theorem dX7_read_1 : decode cX7_read 1 = .ok (.invokevirtual 18, 3) := by decide +kernel
theorem dX7_read_4 : decode cX7_read 4 = .ok (.aload_n 0, 1) := by decide +kernel
theorem dX7_read_5 : decode cX7_read 5 = .ok (.iconst 0, 1) := by decide +kernel
theorem dX7_read_6 : decode cX7_read 6 = .ok (.putfield 23, 3) := by decide +kernel
theorem dX7_read_9 : decode cX7_read 9 = .ok (.iconst 0, 1) := by decide +kernel
theorem dX7_read_10 : decode cX7_read 10 = .ok (.istore_n 3, 1) := by decide +kernel
theorem dX7_read_11 : decode cX7_read 11 = .ok (.iload_n 3, 1) := by decide +kernel
theorem dX7_read_12 : decode cX7_read 12 = .ok (.bipush 30, 2) := by decide +kernel
theorem dX7_read_14 : decode cX7_read 14 = .ok (.if_icmp .gt 63, 3) := by decide +kernel
theorem dX7_read_17 : decode cX7_read 17 = .ok (.aload_n 1, 1) := by decide +kernel
theorem dX7_read_18 : decode cX7_read 18 = .ok (.getfield 27, 3) := by decide +kernel
theorem dX7_read_21 : decode cX7_read 21 = .ok (.ifCond .eq 56, 3) := by decide +kernel
theorem dX7_read_24 : decode cX7_read 24 = .ok (.aload_n 1, 1) := by decide +kernel
theorem dX7_read_25 : decode cX7_read 25 = .ok (.invokestatic 30, 3) := by decide +kernel
theorem dX7_read_28 : decode cX7_read 28 = .ok (.istore 4, 2) := by decide +kernel
theorem dX7_read_30 : decode cX7_read 30 = .ok (.iload 4, 2) := by decide +kernel
theorem dX7_read_32 : decode cX7_read 32 = .ok (.iconst (-1), 1) := by decide +kernel
theorem dX7_read_33 : decode cX7_read 33 = .ok (.if_icmp .ne 9, 3) := by decide +kernel
theorem dX7_read_36 : decode cX7_read 36 = .ok (.aload_n 1, 1) := by decide +kernel
theorem dX7_read_37 : decode cX7_read 37 = .ok (.iconst 1, 1) := by decide +kernel
theorem dX7_read_38 : decode cX7_read 38 = .ok (.invokevirtual 34, 3) := by decide +kernel
theorem dX7_read_41 : decode cX7_read 41 = .ok (.ireturn, 1) := by decide +kernel
theorem dX7_read_42 : decode cX7_read 42 = .ok (.iload_n 3, 1) := by decide +kernel
theorem dX7_read_43 : decode cX7_read 43 = .ok (.bipush 30, 2) := by decide +kernel
theorem dX7_read_45 : decode cX7_read 45 = .ok (.if_icmp .ne 9, 3) := by decide +kernel
theorem dX7_read_48 : decode cX7_read 48 = .ok (.aload_n 1, 1) := by decide +kernel
theorem dX7_read_49 : decode cX7_read 49 = .ok (.iconst 4, 1) := by decide +kernel
theorem dX7_read_50 : decode cX7_read 50 = .ok (.invokevirtual 34, 3) := by decide +kernel
theorem dX7_read_53 : decode cX7_read 53 = .ok (.ireturn, 1) := by decide +kernel
theorem dX7_read_54 : decode cX7_read 54 = .ok (.aload_n 1, 1) := by decide +kernel
theorem dX7_read_55 : decode cX7_read 55 = .ok (.invokevirtual 38, 3) := by decide +kernel
theorem dX7_read_58 : decode cX7_read 58 = .ok (.aload_n 0, 1) := by decide +kernel
theorem dX7_read_59 : decode cX7_read 59 = .ok (.iload 4, 2) := by decide +kernel
theorem dX7_read_61 : decode cX7_read 61 = .ok (.aload_n 1, 1) := by decide +kernel
theorem dX7_read_62 : decode cX7_read 62 = .ok (.aload_n 2, 1) := by decide +kernel
theorem dX7_read_63 : decode cX7_read 63 = .ok (.invokevirtual 41, 3) := by decide +kernel
theorem dX7_read_66 : decode cX7_read 66 = .ok (.ifCond .ne 5, 3) := by decide +kernel
theorem dX7_read_69 : decode cX7_read 69 = .ok (.iconst 0, 1) := by decide +kernel
theorem dX7_read_70 : decode cX7_read 70 = .ok (.ireturn, 1) := by decide +kernel
theorem dX7_read_71 : decode cX7_read 71 = .ok (.iinc 3 1, 3) := by decide +kernel
theorem dX7_read_74 : decode cX7_read 74 = .ok (.goto (-63), 3) := by decide +kernel
theorem dX7_read_77 : decode cX7_read 77 = .ok (.iconst 1, 1) := by decide +kernel
theorem dX7_read_78 : decode cX7_read 78 = .ok (.ireturn, 1) := by decide +kernel
theorem dX7_kindOf_0 : decode cX7_kindOf 0 = .ok (.aload_n 0, 1) := by decide +kernel
theorem dX7_kindOf_1 : decode cX7_kindOf 1 = .ok (.ldc 45, 2) := by decide +kernel
theorem dX7_kindOf_3 : decode cX7_kindOf 3 = .ok (.invokevirtual 47, 3) := by decide +kernel
theorem dX7_kindOf_6 : decode cX7_kindOf 6 = .ok (.ifCond .eq 5, 3) := by decide +kernel
theorem dX7_kindOf_9 : decode cX7_kindOf 9 = .ok (.iconst 0, 1) := by decide +kernel
theorem dX7_kindOf_10 : decode cX7_kindOf 10 = .ok (.ireturn, 1) := by decide +kernel
theorem dX7_kindOf_11 : decode cX7_kindOf 11 = .ok (.aload_n 0, 1) := by decide +kernel
theorem dX7_kindOf_12 : decode cX7_kindOf 12 = .ok (.ldc 51, 2) := by decide +kernel
theorem dX7_kindOf_14 : decode cX7_kindOf 14 = .ok (.invokevirtual 47, 3) := by decide +kernel
theorem dX7_kindOf_17 : decode cX7_kindOf 17 = .ok (.ifCond .eq 5, 3) := by decide +kernel
theorem dX7_kindOf_20 : decode cX7_kindOf 20 = .ok (.iconst 1, 1) := by decide +kernel
theorem dX7_kindOf_21 : decode cX7_kindOf 21 = .ok (.ireturn, 1) := by decide +kernel
theorem dX7_kindOf_22 : decode cX7_kindOf 22 = .ok (.aload_n 0, 1) := by decide +kernel
theorem dX7_kindOf_23 : decode cX7_kindOf 23 = .ok (.ldc 53, 2) := by decide +kernel
theorem dX7_kindOf_25 : decode cX7_kindOf 25 = .ok (.invokevirtual 47, 3) := by decide +kernel
theorem dX7_kindOf_28 : decode cX7_kindOf 28 = .ok (.ifCond .eq 5, 3) := by decide +kernel
theorem dX7_kindOf_31 : decode cX7_kindOf 31 = .ok (.iconst 2, 1) := by decide +kernel
theorem dX7_kindOf_32 : decode cX7_kindOf 32 = .ok (.ireturn, 1) := by decide +kernel
theorem dX7_kindOf_33 : decode cX7_kindOf 33 = .ok (.aload_n 0, 1) := by decide +kernel
theorem dX7_kindOf_34 : decode cX7_kindOf 34 = .ok (.ldc 55, 2) := by decide +kernel
theorem dX7_kindOf_36 : decode cX7_kindOf 36 = .ok (.invokevirtual 47, 3) := by decide +kernel
theorem dX7_kindOf_39 : decode cX7_kindOf 39 = .ok (.ifCond .eq 5, 3) := by decide +kernel
theorem dX7_kindOf_42 : decode cX7_kindOf 42 = .ok (.iconst 3, 1) := by decide +kernel
theorem dX7_kindOf_43 : decode cX7_kindOf 43 = .ok (.ireturn, 1) := by decide +kernel
theorem dX7_kindOf_44 : decode cX7_kindOf 44 = .ok (.aload_n 0, 1) := by decide +kernel
theorem dX7_kindOf_45 : decode cX7_kindOf 45 = .ok (.ldc 57, 2) := by decide +kernel
theorem dX7_kindOf_47 : decode cX7_kindOf 47 = .ok (.invokevirtual 47, 3) := by decide +kernel
theorem dX7_kindOf_50 : decode cX7_kindOf 50 = .ok (.ifCond .eq 5, 3) := by decide +kernel
theorem dX7_kindOf_53 : decode cX7_kindOf 53 = .ok (.iconst 4, 1) := by decide +kernel
theorem dX7_kindOf_54 : decode cX7_kindOf 54 = .ok (.ireturn, 1) := by decide +kernel
theorem dX7_kindOf_55 : decode cX7_kindOf 55 = .ok (.aload_n 0, 1) := by decide +kernel
theorem dX7_kindOf_56 : decode cX7_kindOf 56 = .ok (.ldc 59, 2) := by decide +kernel
theorem dX7_kindOf_58 : decode cX7_kindOf 58 = .ok (.invokevirtual 47, 3) := by decide +kernel
theorem dX7_kindOf_61 : decode cX7_kindOf 61 = .ok (.ifCond .eq 7, 3) := by decide +kernel
theorem dX7_kindOf_64 : decode cX7_kindOf 64 = .ok (.iconst 5, 1) := by decide +kernel
theorem dX7_kindOf_65 : decode cX7_kindOf 65 = .ok (.goto 4, 3) := by decide +kernel
theorem dX7_kindOf_68 : decode cX7_kindOf 68 = .ok (.iconst (-1), 1) := by decide +kernel
theorem dX7_kindOf_69 : decode cX7_kindOf 69 = .ok (.ireturn, 1) := by decide +kernel
theorem dX7_readCommand_0 : decode cX7_readCommand 0 = .ok (.aload_n 0, 1) := by decide +kernel
theorem dX7_readCommand_1 : decode cX7_readCommand 1 = .ok (.getfield 11, 3) := by decide +kernel
theorem dX7_readCommand_4 : decode cX7_readCommand 4 = .ok (.aload_n 0, 1) := by decide +kernel
theorem dX7_readCommand_5 : decode cX7_readCommand 5 = .ok (.getfield 23, 3) := by decide +kernel
theorem dX7_readCommand_8 : decode cX7_readCommand 8 = .ok (.aaload, 1) := by decide +kernel
theorem dX7_readCommand_9 : decode cX7_readCommand 9 = .ok (.astore 4, 2) := by decide +kernel
theorem dX7_readCommand_11 : decode cX7_readCommand 11 = .ok (.aload 4, 2) := by decide +kernel
theorem dX7_readCommand_13 : decode cX7_readCommand 13 = .ok (.iload_n 1, 1) := by decide +kernel
theorem dX7_readCommand_14 : decode cX7_readCommand 14 = .ok (.putfield 61, 3) := by decide +kernel
theorem dX7_readCommand_17 : decode cX7_readCommand 17 = .ok (.iload_n 1, 1) := by decide +kernel
theorem dX7_readCommand_18 : decode cX7_readCommand 18 = .ok (.ifCond .ne 24, 3) := by decide +kernel
theorem dX7_readCommand_21 : decode cX7_readCommand 21 = .ok (.aload 4, 2) := by decide +kernel
theorem dX7_readCommand_23 : decode cX7_readCommand 23 = .ok (.aload_n 2, 1) := by decide +kernel
theorem dX7_readCommand_24 : decode cX7_readCommand 24 = .ok (.aload_n 3, 1) := by decide +kernel
theorem dX7_readCommand_25 : decode cX7_readCommand 25 = .ok (.invokevirtual 62, 3) := by decide +kernel
theorem dX7_readCommand_28 : decode cX7_readCommand 28 = .ok (.putfield 66, 3) := by decide +kernel
theorem dX7_readCommand_31 : decode cX7_readCommand 31 = .ok (.aload 4, 2) := by decide +kernel
theorem dX7_readCommand_33 : decode cX7_readCommand 33 = .ok (.getfield 66, 3) := by decide +kernel
theorem dX7_readCommand_36 : decode cX7_readCommand 36 = .ok (.iconst (-1), 1) := by decide +kernel
theorem dX7_readCommand_37 : decode cX7_readCommand 37 = .ok (.if_icmp .ne 5, 3) := by decide +kernel
theorem dX7_readCommand_40 : decode cX7_readCommand 40 = .ok (.iconst 0, 1) := by decide +kernel
theorem dX7_readCommand_41 : decode cX7_readCommand 41 = .ok (.ireturn, 1) := by decide +kernel
theorem dX7_readCommand_42 : decode cX7_readCommand 42 = .ok (.getstatic 69, 3) := by decide +kernel
theorem dX7_readCommand_45 : decode cX7_readCommand 45 = .ok (.iload_n 1, 1) := by decide +kernel
theorem dX7_readCommand_46 : decode cX7_readCommand 46 = .ok (.iaload, 1) := by decide +kernel
theorem dX7_readCommand_47 : decode cX7_readCommand 47 = .ok (.istore 5, 2) := by decide +kernel
theorem dX7_readCommand_49 : decode cX7_readCommand 49 = .ok (.aload_n 2, 1) := by decide +kernel
theorem dX7_readCommand_50 : decode cX7_readCommand 50 = .ok (.iload 5, 2) := by decide +kernel
theorem dX7_readCommand_52 : decode cX7_readCommand 52 = .ok (.invokevirtual 73, 3) := by decide +kernel
theorem dX7_readCommand_55 : decode cX7_readCommand 55 = .ok (.ifCond .eq 10, 3) := by decide +kernel
theorem dX7_readCommand_58 : decode cX7_readCommand 58 = .ok (.aload_n 2, 1) := by decide +kernel
theorem dX7_readCommand_59 : decode cX7_readCommand 59 = .ok (.invokevirtual 76, 3) := by decide +kernel
theorem dX7_readCommand_62 : decode cX7_readCommand 62 = .ok (.ifCond .ne 5, 3) := by decide +kernel
theorem dX7_readCommand_65 : decode cX7_readCommand 65 = .ok (.iconst 0, 1) := by decide +kernel
theorem dX7_readCommand_66 : decode cX7_readCommand 66 = .ok (.ireturn, 1) := by decide +kernel
theorem dX7_readCommand_67 : decode cX7_readCommand 67 = .ok (.aload_n 2, 1) := by decide +kernel
theorem dX7_readCommand_68 : decode cX7_readCommand 68 = .ok (.getfield 80, 3) := by decide +kernel
theorem dX7_readCommand_71 : decode cX7_readCommand 71 = .ok (.iconst 0, 1) := by decide +kernel
theorem dX7_readCommand_72 : decode cX7_readCommand 72 = .ok (.aload 4, 2) := by decide +kernel
theorem dX7_readCommand_74 : decode cX7_readCommand 74 = .ok (.getfield 83, 3) := by decide +kernel
theorem dX7_readCommand_77 : decode cX7_readCommand 77 = .ok (.iconst 0, 1) := by decide +kernel
theorem dX7_readCommand_78 : decode cX7_readCommand 78 = .ok (.iload 5, 2) := by decide +kernel
theorem dX7_readCommand_80 : decode cX7_readCommand 80 = .ok (.invokestatic 84, 3) := by decide +kernel
theorem dX7_readCommand_83 : decode cX7_readCommand 83 = .ok (.aload_n 0, 1) := by decide +kernel
theorem dX7_readCommand_84 : decode cX7_readCommand 84 = .ok (.dup, 1) := by decide +kernel
theorem dX7_readCommand_85 : decode cX7_readCommand 85 = .ok (.getfield 23, 3) := by decide +kernel
theorem dX7_readCommand_88 : decode cX7_readCommand 88 = .ok (.iconst 1, 1) := by decide +kernel
theorem dX7_readCommand_89 : decode cX7_readCommand 89 = .ok (.iadd, 1) := by decide +kernel
theorem dX7_readCommand_90 : decode cX7_readCommand 90 = .ok (.putfield 23, 3) := by decide +kernel
theorem dX7_readCommand_93 : decode cX7_readCommand 93 = .ok (.iconst 1, 1) := by decide +kernel
theorem dX7_readCommand_94 : decode cX7_readCommand 94 = .ok (.ireturn, 1) := by decide +kernel
theorem dX8_init_0 : decode cX8_init 0 = .ok (.aload_n 0, 1) := by decide +kernel
theorem dX8_init_1 : decode cX8_init 1 = .ok (.invokespecial 1, 3) := by decide +kernel
theorem dX8_init_4 : decode cX8_init 4 = .ok (.aload_n 0, 1) := by decide +kernel
theorem dX8_init_5 : decode cX8_init 5 = .ok (.iconst 1, 1) := by decide +kernel
theorem dX8_init_6 : decode cX8_init 6 = .ok (.putfield 7, 3) := by decide +kernel
theorem dX8_init_9 : decode cX8_init 9 = .ok (.aload_n 0, 1) := by decide +kernel
theorem dX8_init_10 : decode cX8_init 10 = .ok (.iconst 1, 1) := by decide +kernel
theorem dX8_init_11 : decode cX8_init 11 = .ok (.putfield 13, 3) := by decide +kernel
theorem dX8_init_14 : decode cX8_init 14 = .ok (.aload_n 0, 1) := by decide +kernel
theorem dX8_init_15 : decode cX8_init 15 = .ok (.iconst 1, 1) := by decide +kernel
theorem dX8_init_16 : decode cX8_init 16 = .ok (.putfield 16, 3) := by decide +kernel
theorem dX8_init_19 : decode cX8_init 19 = .ok (.return_, 1) := by decide +kernel
theorem dX8_copyFrom_0 : decode cX8_copyFrom 0 = .ok (.aload_n 0, 1) := by decide +kernel
theorem dX8_copyFrom_1 : decode cX8_copyFrom 1 = .ok (.aload_n 1, 1) := by decide +kernel
theorem dX8_copyFrom_2 : decode cX8_copyFrom 2 = .ok (.getfield 19, 3) := by decide +kernel
theorem dX8_copyFrom_5 : decode cX8_copyFrom 5 = .ok (.putfield 19, 3) := by decide +kernel
theorem dX8_copyFrom_8 : decode cX8_copyFrom 8 = .ok (.aload_n 0, 1) := by decide +kernel
theorem dX8_copyFrom_9 : decode cX8_copyFrom 9 = .ok (.aload_n 1, 1) := by decide +kernel
theorem dX8_copyFrom_10 : decode cX8_copyFrom 10 = .ok (.getfield 7, 3) := by decide +kernel
theorem dX8_copyFrom_13 : decode cX8_copyFrom 13 = .ok (.putfield 7, 3) := by decide +kernel
theorem dX8_copyFrom_16 : decode cX8_copyFrom 16 = .ok (.aload_n 0, 1) := by decide +kernel
theorem dX8_copyFrom_17 : decode cX8_copyFrom 17 = .ok (.aload_n 1, 1) := by decide +kernel
theorem dX8_copyFrom_18 : decode cX8_copyFrom 18 = .ok (.getfield 22, 3) := by decide +kernel
theorem dX8_copyFrom_21 : decode cX8_copyFrom 21 = .ok (.putfield 22, 3) := by decide +kernel
theorem dX8_copyFrom_24 : decode cX8_copyFrom 24 = .ok (.aload_n 0, 1) := by decide +kernel
theorem dX8_copyFrom_25 : decode cX8_copyFrom 25 = .ok (.aload_n 1, 1) := by decide +kernel
theorem dX8_copyFrom_26 : decode cX8_copyFrom 26 = .ok (.getfield 13, 3) := by decide +kernel
theorem dX8_copyFrom_29 : decode cX8_copyFrom 29 = .ok (.putfield 13, 3) := by decide +kernel
theorem dX8_copyFrom_32 : decode cX8_copyFrom 32 = .ok (.aload_n 0, 1) := by decide +kernel
theorem dX8_copyFrom_33 : decode cX8_copyFrom 33 = .ok (.aload_n 1, 1) := by decide +kernel
theorem dX8_copyFrom_34 : decode cX8_copyFrom 34 = .ok (.getfield 16, 3) := by decide +kernel
theorem dX8_copyFrom_37 : decode cX8_copyFrom 37 = .ok (.putfield 16, 3) := by decide +kernel
theorem dX8_copyFrom_40 : decode cX8_copyFrom 40 = .ok (.aload_n 0, 1) := by decide +kernel
theorem dX8_copyFrom_41 : decode cX8_copyFrom 41 = .ok (.aload_n 1, 1) := by decide +kernel
theorem dX8_copyFrom_42 : decode cX8_copyFrom 42 = .ok (.getfield 25, 3) := by decide +kernel
theorem dX8_copyFrom_45 : decode cX8_copyFrom 45 = .ok (.putfield 25, 3) := by decide +kernel
theorem dX8_copyFrom_48 : decode cX8_copyFrom 48 = .ok (.return_, 1) := by decide +kernel
theorem dX8_effective_0 : decode cX8_effective 0 = .ok (.aload_n 0, 1) := by decide +kernel
theorem dX8_effective_1 : decode cX8_effective 1 = .ok (.getfield 16, 3) := by decide +kernel
theorem dX8_effective_4 : decode cX8_effective 4 = .ok (.ifCond .le 14, 3) := by decide +kernel
theorem dX8_effective_7 : decode cX8_effective 7 = .ok (.iload_n 1, 1) := by decide +kernel
theorem dX8_effective_8 : decode cX8_effective 8 = .ok (.iload_n 2, 1) := by decide +kernel
theorem dX8_effective_9 : decode cX8_effective 9 = .ok (.aload_n 0, 1) := by decide +kernel
theorem dX8_effective_10 : decode cX8_effective 10 = .ok (.getfield 16, 3) := by decide +kernel
theorem dX8_effective_13 : decode cX8_effective 13 = .ok (.idiv, 1) := by decide +kernel
theorem dX8_effective_14 : decode cX8_effective 14 = .ok (.iadd, 1) := by decide +kernel
theorem dX8_effective_15 : decode cX8_effective 15 = .ok (.goto 4, 3) := by decide +kernel
theorem dX8_effective_18 : decode cX8_effective 18 = .ok (.iload_n 1, 1) := by decide +kernel
theorem dX8_effective_19 : decode cX8_effective 19 = .ok (.ireturn, 1) := by decide +kernel
theorem dX9_init_0 : decode cX9_init 0 = .ok (.aload_n 0, 1) := by decide +kernel
theorem dX9_init_1 : decode cX9_init 1 = .ok (.invokespecial 3, 3) := by decide +kernel
theorem dX9_init_4 : decode cX9_init 4 = .ok (.aload_n 0, 1) := by decide +kernel
theorem dX9_init_5 : decode cX9_init 5 = .ok (.new 9, 3) := by decide +kernel
theorem dX9_init_8 : decode cX9_init 8 = .ok (.dup, 1) := by decide +kernel
theorem dX9_init_9 : decode cX9_init 9 = .ok (.invokespecial 11, 3) := by decide +kernel
theorem dX9_init_12 : decode cX9_init 12 = .ok (.putfield 12, 3) := by decide +kernel
theorem dX9_init_15 : decode cX9_init 15 = .ok (.aload_n 0, 1) := by decide +kernel
theorem dX9_init_16 : decode cX9_init 16 = .ok (.new 18, 3) := by decide +kernel
theorem dX9_init_19 : decode cX9_init 19 = .ok (.dup, 1) := by decide +kernel
theorem dX9_init_20 : decode cX9_init 20 = .ok (.invokespecial 20, 3) := by decide +kernel
theorem dX9_init_23 : decode cX9_init 23 = .ok (.putfield 21, 3) := by decide +kernel
theorem dX9_init_26 : decode cX9_init 26 = .ok (.aload_n 0, 1) := by decide +kernel
theorem dX9_init_27 : decode cX9_init 27 = .ok (.bipush 12, 2) := by decide +kernel
theorem dX9_init_29 : decode cX9_init 29 = .ok (.anewarray 25, 3) := by decide +kernel
theorem dX9_init_32 : decode cX9_init 32 = .ok (.putfield 27, 3) := by decide +kernel
theorem dX9_init_35 : decode cX9_init 35 = .ok (.aload_n 0, 1) := by decide +kernel
theorem dX9_init_36 : decode cX9_init 36 = .ok (.iconst (-1), 1) := by decide +kernel
theorem dX9_init_37 : decode cX9_init 37 = .ok (.putfield 31, 3) := by decide +kernel
theorem dX9_init_40 : decode cX9_init 40 = .ok (.aload_n 0, 1) := by decide +kernel
theorem dX9_init_41 : decode cX9_init 41 = .ok (.iconst (-1), 1) := by decide +kernel
theorem dX9_init_42 : decode cX9_init 42 = .ok (.putfield 35, 3) := by decide +kernel
theorem dX9_init_45 : decode cX9_init 45 = .ok (.aload_n 0, 1) := by decide +kernel
theorem dX9_init_46 : decode cX9_init 46 = .ok (.iconst (-1), 1) := by decide +kernel
theorem dX9_init_47 : decode cX9_init 47 = .ok (.putfield 38, 3) := by decide +kernel
theorem dX9_init_50 : decode cX9_init 50 = .ok (.iconst 0, 1) := by decide +kernel
theorem dX9_init_51 : decode cX9_init 51 = .ok (.istore_n 1, 1) := by decide +kernel
theorem dX9_init_52 : decode cX9_init 52 = .ok (.iload_n 1, 1) := by decide +kernel
theorem dX9_init_53 : decode cX9_init 53 = .ok (.bipush 12, 2) := by decide +kernel
theorem dX9_init_55 : decode cX9_init 55 = .ok (.if_icmp .ge 22, 3) := by decide +kernel
theorem dX9_init_58 : decode cX9_init 58 = .ok (.aload_n 0, 1) := by decide +kernel
theorem dX9_init_59 : decode cX9_init 59 = .ok (.getfield 27, 3) := by decide +kernel
theorem dX9_init_62 : decode cX9_init 62 = .ok (.iload_n 1, 1) := by decide +kernel
theorem dX9_init_63 : decode cX9_init 63 = .ok (.new 25, 3) := by decide +kernel
theorem dX9_init_66 : decode cX9_init 66 = .ok (.dup, 1) := by decide +kernel
theorem dX9_init_67 : decode cX9_init 67 = .ok (.invokespecial 41, 3) := by decide +kernel
theorem dX9_init_70 : decode cX9_init 70 = .ok (.aastore, 1) := by decide +kernel
theorem dX9_init_71 : decode cX9_init 71 = .ok (.iinc 1 1, 3) := by decide +kernel
theorem dX9_init_74 : decode cX9_init 74 = .ok (.goto (-22), 3) := by decide +kernel
theorem dX9_init_77 : decode cX9_init 77 = .ok (.return_, 1) := by decide +kernel
theorem dX9_begin_0 : decode cX9_begin 0 = .ok (.aload_n 0, 1) := by decide +kernel
theorem dX9_begin_1 : decode cX9_begin 1 = .ok (.iconst 0, 1) := by decide +kernel
theorem dX9_begin_2 : decode cX9_begin 2 = .ok (.putfield 42, 3) := by decide +kernel
theorem dX9_begin_5 : decode cX9_begin 5 = .ok (.aload_n 0, 1) := by decide +kernel
theorem dX9_begin_6 : decode cX9_begin 6 = .ok (.iconst 0, 1) := by decide +kernel
theorem dX9_begin_7 : decode cX9_begin 7 = .ok (.putfield 45, 3) := by decide +kernel
theorem dX9_begin_10 : decode cX9_begin 10 = .ok (.aload_n 0, 1) := by decide +kernel
theorem dX9_begin_11 : decode cX9_begin 11 = .ok (.iconst (-1), 1) := by decide +kernel
theorem dX9_begin_12 : decode cX9_begin 12 = .ok (.putfield 31, 3) := by decide +kernel
theorem dX9_begin_15 : decode cX9_begin 15 = .ok (.aload_n 0, 1) := by decide +kernel
theorem dX9_begin_16 : decode cX9_begin 16 = .ok (.iconst (-1), 1) := by decide +kernel
theorem dX9_begin_17 : decode cX9_begin 17 = .ok (.putfield 35, 3) := by decide +kernel
theorem dX9_begin_20 : decode cX9_begin 20 = .ok (.aload_n 0, 1) := by decide +kernel
theorem dX9_begin_21 : decode cX9_begin 21 = .ok (.iconst (-1), 1) := by decide +kernel
theorem dX9_begin_22 : decode cX9_begin 22 = .ok (.putfield 38, 3) := by decide +kernel
theorem dX9_begin_25 : decode cX9_begin 25 = .ok (.aload_n 0, 1) := by decide +kernel
theorem dX9_begin_26 : decode cX9_begin 26 = .ok (.iconst 0, 1) := by decide +kernel
theorem dX9_begin_27 : decode cX9_begin 27 = .ok (.putfield 48, 3) := by decide +kernel
theorem dX9_begin_30 : decode cX9_begin 30 = .ok (.aload_n 0, 1) := by decide +kernel
theorem dX9_begin_31 : decode cX9_begin 31 = .ok (.aload_n 0, 1) := by decide +kernel
theorem dX9_begin_32 : decode cX9_begin 32 = .ok (.getfield 12, 3) := by decide +kernel
theorem dX9_begin_35 : decode cX9_begin 35 = .ok (.getfield 51, 3) := by decide +kernel
theorem dX9_begin_38 : decode cX9_begin 38 = .ok (.putfield 54, 3) := by decide +kernel
theorem dX9_begin_41 : decode cX9_begin 41 = .ok (.aload_n 0, 1) := by decide +kernel
theorem dX9_begin_42 : decode cX9_begin 42 = .ok (.iconst 0, 1) := by decide +kernel
theorem dX9_begin_43 : decode cX9_begin 43 = .ok (.putfield 57, 3) := by decide +kernel
theorem dX9_begin_46 : decode cX9_begin 46 = .ok (.aload_n 0, 1) := by decide +kernel
theorem dX9_begin_47 : decode cX9_begin 47 = .ok (.iconst 0, 1) := by decide +kernel
theorem dX9_begin_48 : decode cX9_begin 48 = .ok (.putfield 60, 3) := by decide +kernel
theorem dX9_begin_51 : decode cX9_begin 51 = .ok (.aload_n 0, 1) := by decide +kernel
theorem dX9_begin_52 : decode cX9_begin 52 = .ok (.iconst 0, 1) := by decide +kernel
theorem dX9_begin_53 : decode cX9_begin 53 = .ok (.putfield 63, 3) := by decide +kernel
theorem dX9_begin_56 : decode cX9_begin 56 = .ok (.aload_n 0, 1) := by decide +kernel
theorem dX9_begin_57 : decode cX9_begin 57 = .ok (.iconst 0, 1) := by decide +kernel
theorem dX9_begin_58 : decode cX9_begin 58 = .ok (.putfield 66, 3) := by decide +kernel
theorem dX9_begin_61 : decode cX9_begin 61 = .ok (.aload_n 0, 1) := by decide +kernel
theorem dX9_begin_62 : decode cX9_begin 62 = .ok (.iconst 0, 1) := by decide +kernel
theorem dX9_begin_63 : decode cX9_begin 63 = .ok (.putfield 69, 3) := by decide +kernel
theorem dX9_begin_66 : decode cX9_begin 66 = .ok (.aload_n 0, 1) := by decide +kernel
theorem dX9_begin_67 : decode cX9_begin 67 = .ok (.iconst 0, 1) := by decide +kernel
theorem dX9_begin_68 : decode cX9_begin 68 = .ok (.putfield 72, 3) := by decide +kernel
theorem dX9_begin_71 : decode cX9_begin 71 = .ok (.aload_n 0, 1) := by decide +kernel
theorem dX9_begin_72 : decode cX9_begin 72 = .ok (.iconst 0, 1) := by decide +kernel
theorem dX9_begin_73 : decode cX9_begin 73 = .ok (.putfield 75, 3) := by decide +kernel
theorem dX9_begin_76 : decode cX9_begin 76 = .ok (.aload_n 0, 1) := by decide +kernel
theorem dX9_begin_77 : decode cX9_begin 77 = .ok (.iconst 0, 1) := by decide +kernel
theorem dX9_begin_78 : decode cX9_begin 78 = .ok (.putfield 78, 3) := by decide +kernel
theorem dX9_begin_81 : decode cX9_begin 81 = .ok (.return_, 1) := by decide +kernel
theorem dX9_copyFrom_0 : decode cX9_copyFrom 0 = .ok (.aload_n 0, 1) := by decide +kernel
theorem dX9_copyFrom_1 : decode cX9_copyFrom 1 = .ok (.getfield 12, 3) := by decide +kernel
theorem dX9_copyFrom_4 : decode cX9_copyFrom 4 = .ok (.aload_n 1, 1) := by decide +kernel
theorem dX9_copyFrom_5 : decode cX9_copyFrom 5 = .ok (.getfield 12, 3) := by decide +kernel
theorem dX9_copyFrom_8 : decode cX9_copyFrom 8 = .ok (.invokevirtual 81, 3) := by decide +kernel
theorem dX9_copyFrom_11 : decode cX9_copyFrom 11 = .ok (.aload_n 0, 1) := by decide +kernel
theorem dX9_copyFrom_12 : decode cX9_copyFrom 12 = .ok (.getfield 21, 3) := by decide +kernel
theorem dX9_copyFrom_15 : decode cX9_copyFrom 15 = .ok (.aload_n 1, 1) := by decide +kernel
theorem dX9_copyFrom_16 : decode cX9_copyFrom 16 = .ok (.getfield 21, 3) := by decide +kernel
theorem dX9_copyFrom_19 : decode cX9_copyFrom 19 = .ok (.invokevirtual 85, 3) := by decide +kernel
theorem dX9_copyFrom_22 : decode cX9_copyFrom 22 = .ok (.aload_n 0, 1) := by decide +kernel
theorem dX9_copyFrom_23 : decode cX9_copyFrom 23 = .ok (.aload_n 1, 1) := by decide +kernel
theorem dX9_copyFrom_24 : decode cX9_copyFrom 24 = .ok (.getfield 42, 3) := by decide +kernel
theorem dX9_copyFrom_27 : decode cX9_copyFrom 27 = .ok (.putfield 42, 3) := by decide +kernel
theorem dX9_copyFrom_30 : decode cX9_copyFrom 30 = .ok (.iconst 0, 1) := by decide +kernel
theorem dX9_copyFrom_31 : decode cX9_copyFrom 31 = .ok (.istore_n 2, 1) := by decide +kernel
theorem dX9_copyFrom_32 : decode cX9_copyFrom 32 = .ok (.iload_n 2, 1) := by decide +kernel
theorem dX9_copyFrom_33 : decode cX9_copyFrom 33 = .ok (.aload_n 0, 1) := by decide +kernel
theorem dX9_copyFrom_34 : decode cX9_copyFrom 34 = .ok (.getfield 42, 3) := by decide +kernel
theorem dX9_copyFrom_37 : decode cX9_copyFrom 37 = .ok (.if_icmp .ge 24, 3) := by decide +kernel
theorem dX9_copyFrom_40 : decode cX9_copyFrom 40 = .ok (.aload_n 0, 1) := by decide +kernel
theorem dX9_copyFrom_41 : decode cX9_copyFrom 41 = .ok (.getfield 27, 3) := by decide +kernel
theorem dX9_copyFrom_44 : decode cX9_copyFrom 44 = .ok (.iload_n 2, 1) := by decide +kernel
theorem dX9_copyFrom_45 : decode cX9_copyFrom 45 = .ok (.aaload, 1) := by decide +kernel
theorem dX9_copyFrom_46 : decode cX9_copyFrom 46 = .ok (.aload_n 1, 1) := by decide +kernel
theorem dX9_copyFrom_47 : decode cX9_copyFrom 47 = .ok (.getfield 27, 3) := by decide +kernel
theorem dX9_copyFrom_50 : decode cX9_copyFrom 50 = .ok (.iload_n 2, 1) := by decide +kernel
theorem dX9_copyFrom_51 : decode cX9_copyFrom 51 = .ok (.aaload, 1) := by decide +kernel
theorem dX9_copyFrom_52 : decode cX9_copyFrom 52 = .ok (.invokevirtual 88, 3) := by decide +kernel
theorem dX9_copyFrom_55 : decode cX9_copyFrom 55 = .ok (.iinc 2 1, 3) := by decide +kernel
theorem dX9_copyFrom_58 : decode cX9_copyFrom 58 = .ok (.goto (-26), 3) := by decide +kernel
theorem dX9_copyFrom_61 : decode cX9_copyFrom 61 = .ok (.aload_n 0, 1) := by decide +kernel
theorem dX9_copyFrom_62 : decode cX9_copyFrom 62 = .ok (.aload_n 1, 1) := by decide +kernel
theorem dX9_copyFrom_63 : decode cX9_copyFrom 63 = .ok (.getfield 45, 3) := by decide +kernel
theorem dX9_copyFrom_66 : decode cX9_copyFrom 66 = .ok (.putfield 45, 3) := by decide +kernel
theorem dX9_copyFrom_69 : decode cX9_copyFrom 69 = .ok (.aload_n 0, 1) := by decide +kernel
theorem dX9_copyFrom_70 : decode cX9_copyFrom 70 = .ok (.aload_n 1, 1) := by decide +kernel
theorem dX9_copyFrom_71 : decode cX9_copyFrom 71 = .ok (.getfield 91, 3) := by decide +kernel
theorem dX9_copyFrom_74 : decode cX9_copyFrom 74 = .ok (.putfield 91, 3) := by decide +kernel
theorem dX9_copyFrom_77 : decode cX9_copyFrom 77 = .ok (.aload_n 0, 1) := by decide +kernel
theorem dX9_copyFrom_78 : decode cX9_copyFrom 78 = .ok (.aload_n 1, 1) := by decide +kernel
theorem dX9_copyFrom_79 : decode cX9_copyFrom 79 = .ok (.getfield 31, 3) := by decide +kernel
theorem dX9_copyFrom_82 : decode cX9_copyFrom 82 = .ok (.putfield 31, 3) := by decide +kernel
theorem dX9_copyFrom_85 : decode cX9_copyFrom 85 = .ok (.aload_n 0, 1) := by decide +kernel
theorem dX9_copyFrom_86 : decode cX9_copyFrom 86 = .ok (.aload_n 1, 1) := by decide +kernel
theorem dX9_copyFrom_87 : decode cX9_copyFrom 87 = .ok (.getfield 35, 3) := by decide +kernel
theorem dX9_copyFrom_90 : decode cX9_copyFrom 90 = .ok (.putfield 35, 3) := by decide +kernel
theorem dX9_copyFrom_93 : decode cX9_copyFrom 93 = .ok (.aload_n 0, 1) := by decide +kernel
theorem dX9_copyFrom_94 : decode cX9_copyFrom 94 = .ok (.aload_n 1, 1) := by decide +kernel
theorem dX9_copyFrom_95 : decode cX9_copyFrom 95 = .ok (.getfield 38, 3) := by decide +kernel
theorem dX9_copyFrom_98 : decode cX9_copyFrom 98 = .ok (.putfield 38, 3) := by decide +kernel
theorem dX9_copyFrom_101 : decode cX9_copyFrom 101 = .ok (.aload_n 0, 1) := by decide +kernel
theorem dX9_copyFrom_102 : decode cX9_copyFrom 102 = .ok (.aload_n 1, 1) := by decide +kernel
theorem dX9_copyFrom_103 : decode cX9_copyFrom 103 = .ok (.getfield 48, 3) := by decide +kernel
theorem dX9_copyFrom_106 : decode cX9_copyFrom 106 = .ok (.putfield 48, 3) := by decide +kernel
theorem dX9_copyFrom_109 : decode cX9_copyFrom 109 = .ok (.aload_n 0, 1) := by decide +kernel
theorem dX9_copyFrom_110 : decode cX9_copyFrom 110 = .ok (.aload_n 1, 1) := by decide +kernel
theorem dX9_copyFrom_111 : decode cX9_copyFrom 111 = .ok (.getfield 54, 3) := by decide +kernel
theorem dX9_copyFrom_114 : decode cX9_copyFrom 114 = .ok (.putfield 54, 3) := by decide +kernel
theorem dX9_copyFrom_117 : decode cX9_copyFrom 117 = .ok (.aload_n 0, 1) := by decide +kernel
theorem dX9_copyFrom_118 : decode cX9_copyFrom 118 = .ok (.aload_n 1, 1) := by decide +kernel
theorem dX9_copyFrom_119 : decode cX9_copyFrom 119 = .ok (.getfield 57, 3) := by decide +kernel
theorem dX9_copyFrom_122 : decode cX9_copyFrom 122 = .ok (.putfield 57, 3) := by decide +kernel
theorem dX9_copyFrom_125 : decode cX9_copyFrom 125 = .ok (.aload_n 0, 1) := by decide +kernel
theorem dX9_copyFrom_126 : decode cX9_copyFrom 126 = .ok (.aload_n 1, 1) := by decide +kernel
theorem dX9_copyFrom_127 : decode cX9_copyFrom 127 = .ok (.getfield 60, 3) := by decide +kernel
theorem dX9_copyFrom_130 : decode cX9_copyFrom 130 = .ok (.putfield 60, 3) := by decide +kernel
theorem dX9_copyFrom_133 : decode cX9_copyFrom 133 = .ok (.aload_n 0, 1) := by decide +kernel
theorem dX9_copyFrom_134 : decode cX9_copyFrom 134 = .ok (.aload_n 1, 1) := by decide +kernel
theorem dX9_copyFrom_135 : decode cX9_copyFrom 135 = .ok (.getfield 63, 3) := by decide +kernel
theorem dX9_copyFrom_138 : decode cX9_copyFrom 138 = .ok (.putfield 63, 3) := by decide +kernel
theorem dX9_copyFrom_141 : decode cX9_copyFrom 141 = .ok (.aload_n 0, 1) := by decide +kernel
theorem dX9_copyFrom_142 : decode cX9_copyFrom 142 = .ok (.aload_n 1, 1) := by decide +kernel
theorem dX9_copyFrom_143 : decode cX9_copyFrom 143 = .ok (.getfield 66, 3) := by decide +kernel
theorem dX9_copyFrom_146 : decode cX9_copyFrom 146 = .ok (.putfield 66, 3) := by decide +kernel
theorem dX9_copyFrom_149 : decode cX9_copyFrom 149 = .ok (.aload_n 0, 1) := by decide +kernel
theorem dX9_copyFrom_150 : decode cX9_copyFrom 150 = .ok (.aload_n 1, 1) := by decide +kernel
theorem dX9_copyFrom_151 : decode cX9_copyFrom 151 = .ok (.getfield 69, 3) := by decide +kernel
theorem dX9_copyFrom_154 : decode cX9_copyFrom 154 = .ok (.putfield 69, 3) := by decide +kernel
theorem dX9_copyFrom_157 : decode cX9_copyFrom 157 = .ok (.aload_n 0, 1) := by decide +kernel
theorem dX9_copyFrom_158 : decode cX9_copyFrom 158 = .ok (.aload_n 1, 1) := by decide +kernel
theorem dX9_copyFrom_159 : decode cX9_copyFrom 159 = .ok (.getfield 72, 3) := by decide +kernel
theorem dX9_copyFrom_162 : decode cX9_copyFrom 162 = .ok (.putfield 72, 3) := by decide +kernel
theorem dX9_copyFrom_165 : decode cX9_copyFrom 165 = .ok (.aload_n 0, 1) := by decide +kernel
theorem dX9_copyFrom_166 : decode cX9_copyFrom 166 = .ok (.aload_n 1, 1) := by decide +kernel
theorem dX9_copyFrom_167 : decode cX9_copyFrom 167 = .ok (.getfield 75, 3) := by decide +kernel
theorem dX9_copyFrom_170 : decode cX9_copyFrom 170 = .ok (.putfield 75, 3) := by decide +kernel
theorem dX9_copyFrom_173 : decode cX9_copyFrom 173 = .ok (.aload_n 0, 1) := by decide +kernel
theorem dX9_copyFrom_174 : decode cX9_copyFrom 174 = .ok (.aload_n 1, 1) := by decide +kernel
theorem dX9_copyFrom_175 : decode cX9_copyFrom 175 = .ok (.getfield 78, 3) := by decide +kernel
theorem dX9_copyFrom_178 : decode cX9_copyFrom 178 = .ok (.putfield 78, 3) := by decide +kernel
theorem dX9_copyFrom_181 : decode cX9_copyFrom 181 = .ok (.return_, 1) := by decide +kernel
theorem dX9_hasClerk_0 : decode cX9_hasClerk 0 = .ok (.iload_n 1, 1) := by decide +kernel
theorem dX9_hasClerk_1 : decode cX9_hasClerk 1 = .ok (.ifCond .lt 18, 3) := by decide +kernel
theorem dX9_hasClerk_4 : decode cX9_hasClerk 4 = .ok (.iload_n 1, 1) := by decide +kernel
theorem dX9_hasClerk_5 : decode cX9_hasClerk 5 = .ok (.aload_n 0, 1) := by decide +kernel
theorem dX9_hasClerk_6 : decode cX9_hasClerk 6 = .ok (.getfield 21, 3) := by decide +kernel
theorem dX9_hasClerk_9 : decode cX9_hasClerk 9 = .ok (.getfield 94, 3) := by decide +kernel
theorem dX9_hasClerk_12 : decode cX9_hasClerk 12 = .ok (.if_icmp .ge 7, 3) := by decide +kernel
theorem dX9_hasClerk_15 : decode cX9_hasClerk 15 = .ok (.iconst 1, 1) := by decide +kernel
theorem dX9_hasClerk_16 : decode cX9_hasClerk 16 = .ok (.goto 4, 3) := by decide +kernel
theorem dX9_hasClerk_19 : decode cX9_hasClerk 19 = .ok (.iconst 0, 1) := by decide +kernel
theorem dX9_hasClerk_20 : decode cX9_hasClerk 20 = .ok (.ireturn, 1) := by decide +kernel
theorem dX9_hasLetter_0 : decode cX9_hasLetter 0 = .ok (.iload_n 1, 1) := by decide +kernel
theorem dX9_hasLetter_1 : decode cX9_hasLetter 1 = .ok (.ifCond .lt 15, 3) := by decide +kernel
theorem dX9_hasLetter_4 : decode cX9_hasLetter 4 = .ok (.iload_n 1, 1) := by decide +kernel
theorem dX9_hasLetter_5 : decode cX9_hasLetter 5 = .ok (.aload_n 0, 1) := by decide +kernel
theorem dX9_hasLetter_6 : decode cX9_hasLetter 6 = .ok (.getfield 42, 3) := by decide +kernel
theorem dX9_hasLetter_9 : decode cX9_hasLetter 9 = .ok (.if_icmp .ge 7, 3) := by decide +kernel
theorem dX9_hasLetter_12 : decode cX9_hasLetter 12 = .ok (.iconst 1, 1) := by decide +kernel
theorem dX9_hasLetter_13 : decode cX9_hasLetter 13 = .ok (.goto 4, 3) := by decide +kernel
theorem dX9_hasLetter_16 : decode cX9_hasLetter 16 = .ok (.iconst 0, 1) := by decide +kernel
theorem dX9_hasLetter_17 : decode cX9_hasLetter 17 = .ok (.ireturn, 1) := by decide +kernel
theorem dX9_putLetter_0 : decode cX9_putLetter 0 = .ok (.aload_n 0, 1) := by decide +kernel
theorem dX9_putLetter_1 : decode cX9_putLetter 1 = .ok (.getfield 42, 3) := by decide +kernel
theorem dX9_putLetter_4 : decode cX9_putLetter 4 = .ok (.bipush 12, 2) := by decide +kernel
theorem dX9_putLetter_6 : decode cX9_putLetter 6 = .ok (.if_icmp .lt 5, 3) := by decide +kernel
theorem dX9_putLetter_9 : decode cX9_putLetter 9 = .ok (.iconst (-1), 1) := by decide +kernel
theorem dX9_putLetter_10 : decode cX9_putLetter 10 = .ok (.ireturn, 1) := by decide +kernel
theorem dX9_putLetter_11 : decode cX9_putLetter 11 = .ok (.aload_n 0, 1) := by decide +kernel
theorem dX9_putLetter_12 : decode cX9_putLetter 12 = .ok (.getfield 27, 3) := by decide +kernel
theorem dX9_putLetter_15 : decode cX9_putLetter 15 = .ok (.aload_n 0, 1) := by decide +kernel
theorem dX9_putLetter_16 : decode cX9_putLetter 16 = .ok (.getfield 42, 3) := by decide +kernel
theorem dX9_putLetter_19 : decode cX9_putLetter 19 = .ok (.aaload, 1) := by decide +kernel
theorem dX9_putLetter_20 : decode cX9_putLetter 20 = .ok (.astore 6, 2) := by decide +kernel
theorem dX9_putLetter_22 : decode cX9_putLetter 22 = .ok (.aload 6, 2) := by decide +kernel
theorem dX9_putLetter_24 : decode cX9_putLetter 24 = .ok (.iload_n 1, 1) := by decide +kernel
theorem dX9_putLetter_25 : decode cX9_putLetter 25 = .ok (.putfield 97, 3) := by decide +kernel
theorem dX9_putLetter_28 : decode cX9_putLetter 28 = .ok (.aload 6, 2) := by decide +kernel
theorem dX9_putLetter_30 : decode cX9_putLetter 30 = .ok (.iload_n 2, 1) := by decide +kernel
theorem dX9_putLetter_31 : decode cX9_putLetter 31 = .ok (.putfield 100, 3) := by decide +kernel
theorem dX9_putLetter_34 : decode cX9_putLetter 34 = .ok (.aload 6, 2) := by decide +kernel
theorem dX9_putLetter_36 : decode cX9_putLetter 36 = .ok (.iload_n 3, 1) := by decide +kernel
theorem dX9_putLetter_37 : decode cX9_putLetter 37 = .ok (.putfield 103, 3) := by decide +kernel
theorem dX9_putLetter_40 : decode cX9_putLetter 40 = .ok (.aload 6, 2) := by decide +kernel
theorem dX9_putLetter_42 : decode cX9_putLetter 42 = .ok (.iload 4, 2) := by decide +kernel
theorem dX9_putLetter_44 : decode cX9_putLetter 44 = .ok (.putfield 106, 3) := by decide +kernel
theorem dX9_putLetter_47 : decode cX9_putLetter 47 = .ok (.aload 6, 2) := by decide +kernel
theorem dX9_putLetter_49 : decode cX9_putLetter 49 = .ok (.iload 5, 2) := by decide +kernel
theorem dX9_putLetter_51 : decode cX9_putLetter 51 = .ok (.putfield 109, 3) := by decide +kernel
theorem dX9_putLetter_54 : decode cX9_putLetter 54 = .ok (.aload 6, 2) := by decide +kernel
theorem dX9_putLetter_56 : decode cX9_putLetter 56 = .ok (.iload_n 2, 1) := by decide +kernel
theorem dX9_putLetter_57 : decode cX9_putLetter 57 = .ok (.putfield 112, 3) := by decide +kernel
theorem dX9_putLetter_60 : decode cX9_putLetter 60 = .ok (.aload 6, 2) := by decide +kernel
theorem dX9_putLetter_62 : decode cX9_putLetter 62 = .ok (.iconst (-1), 1) := by decide +kernel
theorem dX9_putLetter_63 : decode cX9_putLetter 63 = .ok (.putfield 115, 3) := by decide +kernel
theorem dX9_putLetter_66 : decode cX9_putLetter 66 = .ok (.aload 6, 2) := by decide +kernel
theorem dX9_putLetter_68 : decode cX9_putLetter 68 = .ok (.iconst 0, 1) := by decide +kernel
theorem dX9_putLetter_69 : decode cX9_putLetter 69 = .ok (.putfield 118, 3) := by decide +kernel
theorem dX9_putLetter_72 : decode cX9_putLetter 72 = .ok (.aload_n 0, 1) := by decide +kernel
theorem dX9_putLetter_73 : decode cX9_putLetter 73 = .ok (.dup, 1) := by decide +kernel
theorem dX9_putLetter_74 : decode cX9_putLetter 74 = .ok (.getfield 42, 3) := by decide +kernel
theorem dX9_putLetter_77 : decode cX9_putLetter 77 = .ok (.iconst 1, 1) := by decide +kernel
theorem dX9_putLetter_78 : decode cX9_putLetter 78 = .ok (.iadd, 1) := by decide +kernel
theorem dX9_putLetter_79 : decode cX9_putLetter 79 = .ok (.putfield 42, 3) := by decide +kernel
theorem dX9_putLetter_82 : decode cX9_putLetter 82 = .ok (.aload_n 0, 1) := by decide +kernel
theorem dX9_putLetter_83 : decode cX9_putLetter 83 = .ok (.getfield 42, 3) := by decide +kernel
theorem dX9_putLetter_86 : decode cX9_putLetter 86 = .ok (.iconst 1, 1) := by decide +kernel
theorem dX9_putLetter_87 : decode cX9_putLetter 87 = .ok (.isub, 1) := by decide +kernel
theorem dX9_putLetter_88 : decode cX9_putLetter 88 = .ok (.ireturn, 1) := by decide +kernel
theorem dX9_dropLetter_0 : decode cX9_dropLetter 0 = .ok (.aload_n 0, 1) := by decide +kernel
theorem dX9_dropLetter_1 : decode cX9_dropLetter 1 = .ok (.getfield 27, 3) := by decide +kernel
theorem dX9_dropLetter_4 : decode cX9_dropLetter 4 = .ok (.iload_n 1, 1) := by decide +kernel
theorem dX9_dropLetter_5 : decode cX9_dropLetter 5 = .ok (.aaload, 1) := by decide +kernel
theorem dX9_dropLetter_6 : decode cX9_dropLetter 6 = .ok (.astore_n 2, 1) := by decide +kernel
theorem dX9_dropLetter_7 : decode cX9_dropLetter 7 = .ok (.aload_n 2, 1) := by decide +kernel
theorem dX9_dropLetter_8 : decode cX9_dropLetter 8 = .ok (.getfield 112, 3) := by decide +kernel
theorem dX9_dropLetter_11 : decode cX9_dropLetter 11 = .ok (.istore_n 3, 1) := by decide +kernel
theorem dX9_dropLetter_12 : decode cX9_dropLetter 12 = .ok (.aload_n 2, 1) := by decide +kernel
theorem dX9_dropLetter_13 : decode cX9_dropLetter 13 = .ok (.iconst 0, 1) := by decide +kernel
theorem dX9_dropLetter_14 : decode cX9_dropLetter 14 = .ok (.putfield 112, 3) := by decide +kernel
theorem dX9_dropLetter_17 : decode cX9_dropLetter 17 = .ok (.aload_n 2, 1) := by decide +kernel
theorem dX9_dropLetter_18 : decode cX9_dropLetter 18 = .ok (.aload_n 0, 1) := by decide +kernel
theorem dX9_dropLetter_19 : decode cX9_dropLetter 19 = .ok (.getfield 45, 3) := by decide +kernel
theorem dX9_dropLetter_22 : decode cX9_dropLetter 22 = .ok (.putfield 115, 3) := by decide +kernel
theorem dX9_dropLetter_25 : decode cX9_dropLetter 25 = .ok (.aload_n 0, 1) := by decide +kernel
theorem dX9_dropLetter_26 : decode cX9_dropLetter 26 = .ok (.getfield 35, 3) := by decide +kernel
theorem dX9_dropLetter_29 : decode cX9_dropLetter 29 = .ok (.iload_n 1, 1) := by decide +kernel
theorem dX9_dropLetter_30 : decode cX9_dropLetter 30 = .ok (.if_icmp .ne 8, 3) := by decide +kernel
theorem dX9_dropLetter_33 : decode cX9_dropLetter 33 = .ok (.aload_n 0, 1) := by decide +kernel
theorem dX9_dropLetter_34 : decode cX9_dropLetter 34 = .ok (.iconst (-1), 1) := by decide +kernel
theorem dX9_dropLetter_35 : decode cX9_dropLetter 35 = .ok (.putfield 35, 3) := by decide +kernel
theorem dX9_dropLetter_38 : decode cX9_dropLetter 38 = .ok (.iload_n 3, 1) := by decide +kernel
theorem dX9_dropLetter_39 : decode cX9_dropLetter 39 = .ok (.ireturn, 1) := by decide +kernel
theorem dX9_countReady_0 : decode cX9_countReady 0 = .ok (.iconst 0, 1) := by decide +kernel
theorem dX9_countReady_1 : decode cX9_countReady 1 = .ok (.istore_n 1, 1) := by decide +kernel
theorem dX9_countReady_2 : decode cX9_countReady 2 = .ok (.iconst 0, 1) := by decide +kernel
theorem dX9_countReady_3 : decode cX9_countReady 3 = .ok (.istore_n 2, 1) := by decide +kernel
theorem dX9_countReady_4 : decode cX9_countReady 4 = .ok (.iload_n 2, 1) := by decide +kernel
theorem dX9_countReady_5 : decode cX9_countReady 5 = .ok (.aload_n 0, 1) := by decide +kernel
theorem dX9_countReady_6 : decode cX9_countReady 6 = .ok (.getfield 42, 3) := by decide +kernel
theorem dX9_countReady_9 : decode cX9_countReady 9 = .ok (.if_icmp .ge 28, 3) := by decide +kernel
theorem dX9_countReady_12 : decode cX9_countReady 12 = .ok (.aload_n 0, 1) := by decide +kernel
theorem dX9_countReady_13 : decode cX9_countReady 13 = .ok (.getfield 27, 3) := by decide +kernel
theorem dX9_countReady_16 : decode cX9_countReady 16 = .ok (.iload_n 2, 1) := by decide +kernel
theorem dX9_countReady_17 : decode cX9_countReady 17 = .ok (.aaload, 1) := by decide +kernel
theorem dX9_countReady_18 : decode cX9_countReady 18 = .ok (.aload_n 0, 1) := by decide +kernel
theorem dX9_countReady_19 : decode cX9_countReady 19 = .ok (.getfield 45, 3) := by decide +kernel
theorem dX9_countReady_22 : decode cX9_countReady 22 = .ok (.invokevirtual 121, 3) := by decide +kernel
theorem dX9_countReady_25 : decode cX9_countReady 25 = .ok (.ifCond .eq 6, 3) := by decide +kernel
theorem dX9_countReady_28 : decode cX9_countReady 28 = .ok (.iinc 1 1, 3) := by decide +kernel
theorem dX9_countReady_31 : decode cX9_countReady 31 = .ok (.iinc 2 1, 3) := by decide +kernel
theorem dX9_countReady_34 : decode cX9_countReady 34 = .ok (.goto (-30), 3) := by decide +kernel
theorem dX9_countReady_37 : decode cX9_countReady 37 = .ok (.iload_n 1, 1) := by decide +kernel
theorem dX9_countReady_38 : decode cX9_countReady 38 = .ok (.ireturn, 1) := by decide +kernel
theorem dX9_countOpen_0 : decode cX9_countOpen 0 = .ok (.iconst 0, 1) := by decide +kernel
theorem dX9_countOpen_1 : decode cX9_countOpen 1 = .ok (.istore_n 1, 1) := by decide +kernel
theorem dX9_countOpen_2 : decode cX9_countOpen 2 = .ok (.iconst 0, 1) := by decide +kernel
theorem dX9_countOpen_3 : decode cX9_countOpen 3 = .ok (.istore_n 2, 1) := by decide +kernel
theorem dX9_countOpen_4 : decode cX9_countOpen 4 = .ok (.iload_n 2, 1) := by decide +kernel
theorem dX9_countOpen_5 : decode cX9_countOpen 5 = .ok (.aload_n 0, 1) := by decide +kernel
theorem dX9_countOpen_6 : decode cX9_countOpen 6 = .ok (.getfield 42, 3) := by decide +kernel
theorem dX9_countOpen_9 : decode cX9_countOpen 9 = .ok (.if_icmp .ge 24, 3) := by decide +kernel
theorem dX9_countOpen_12 : decode cX9_countOpen 12 = .ok (.aload_n 0, 1) := by decide +kernel
theorem dX9_countOpen_13 : decode cX9_countOpen 13 = .ok (.getfield 27, 3) := by decide +kernel
theorem dX9_countOpen_16 : decode cX9_countOpen 16 = .ok (.iload_n 2, 1) := by decide +kernel
theorem dX9_countOpen_17 : decode cX9_countOpen 17 = .ok (.aaload, 1) := by decide +kernel
theorem dX9_countOpen_18 : decode cX9_countOpen 18 = .ok (.getfield 112, 3) := by decide +kernel
theorem dX9_countOpen_21 : decode cX9_countOpen 21 = .ok (.ifCond .le 6, 3) := by decide +kernel
theorem dX9_countOpen_24 : decode cX9_countOpen 24 = .ok (.iinc 1 1, 3) := by decide +kernel
theorem dX9_countOpen_27 : decode cX9_countOpen 27 = .ok (.iinc 2 1, 3) := by decide +kernel
theorem dX9_countOpen_30 : decode cX9_countOpen 30 = .ok (.goto (-26), 3) := by decide +kernel
theorem dX9_countOpen_33 : decode cX9_countOpen 33 = .ok (.iload_n 1, 1) := by decide +kernel
theorem dX9_countOpen_34 : decode cX9_countOpen 34 = .ok (.ireturn, 1) := by decide +kernel
theorem dX9_countOpenOf_0 : decode cX9_countOpenOf 0 = .ok (.iconst 0, 1) := by decide +kernel
theorem dX9_countOpenOf_1 : decode cX9_countOpenOf 1 = .ok (.istore_n 2, 1) := by decide +kernel
theorem dX9_countOpenOf_2 : decode cX9_countOpenOf 2 = .ok (.iconst 0, 1) := by decide +kernel
theorem dX9_countOpenOf_3 : decode cX9_countOpenOf 3 = .ok (.istore_n 3, 1) := by decide +kernel
theorem dX9_countOpenOf_4 : decode cX9_countOpenOf 4 = .ok (.iload_n 3, 1) := by decide +kernel
theorem dX9_countOpenOf_5 : decode cX9_countOpenOf 5 = .ok (.aload_n 0, 1) := by decide +kernel
theorem dX9_countOpenOf_6 : decode cX9_countOpenOf 6 = .ok (.getfield 42, 3) := by decide +kernel
theorem dX9_countOpenOf_9 : decode cX9_countOpenOf 9 = .ok (.if_icmp .ge 37, 3) := by decide +kernel
theorem dX9_countOpenOf_12 : decode cX9_countOpenOf 12 = .ok (.aload_n 0, 1) := by decide +kernel
theorem dX9_countOpenOf_13 : decode cX9_countOpenOf 13 = .ok (.getfield 27, 3) := by decide +kernel
theorem dX9_countOpenOf_16 : decode cX9_countOpenOf 16 = .ok (.iload_n 3, 1) := by decide +kernel
theorem dX9_countOpenOf_17 : decode cX9_countOpenOf 17 = .ok (.aaload, 1) := by decide +kernel
theorem dX9_countOpenOf_18 : decode cX9_countOpenOf 18 = .ok (.getfield 97, 3) := by decide +kernel
theorem dX9_countOpenOf_21 : decode cX9_countOpenOf 21 = .ok (.iload_n 1, 1) := by decide +kernel
theorem dX9_countOpenOf_22 : decode cX9_countOpenOf 22 = .ok (.if_icmp .ne 18, 3) := by decide +kernel
theorem dX9_countOpenOf_25 : decode cX9_countOpenOf 25 = .ok (.aload_n 0, 1) := by decide +kernel
theorem dX9_countOpenOf_26 : decode cX9_countOpenOf 26 = .ok (.getfield 27, 3) := by decide +kernel
theorem dX9_countOpenOf_29 : decode cX9_countOpenOf 29 = .ok (.iload_n 3, 1) := by decide +kernel
theorem dX9_countOpenOf_30 : decode cX9_countOpenOf 30 = .ok (.aaload, 1) := by decide +kernel
theorem dX9_countOpenOf_31 : decode cX9_countOpenOf 31 = .ok (.getfield 112, 3) := by decide +kernel
theorem dX9_countOpenOf_34 : decode cX9_countOpenOf 34 = .ok (.ifCond .le 6, 3) := by decide +kernel
theorem dX9_countOpenOf_37 : decode cX9_countOpenOf 37 = .ok (.iinc 2 1, 3) := by decide +kernel
theorem dX9_countOpenOf_40 : decode cX9_countOpenOf 40 = .ok (.iinc 3 1, 3) := by decide +kernel
theorem dX9_countOpenOf_43 : decode cX9_countOpenOf 43 = .ok (.goto (-39), 3) := by decide +kernel
theorem dX9_countOpenOf_46 : decode cX9_countOpenOf 46 = .ok (.iload_n 2, 1) := by decide +kernel
theorem dX9_countOpenOf_47 : decode cX9_countOpenOf 47 = .ok (.ireturn, 1) := by decide +kernel
theorem dX9_remainingOf_0 : decode cX9_remainingOf 0 = .ok (.iconst 0, 1) := by decide +kernel
theorem dX9_remainingOf_1 : decode cX9_remainingOf 1 = .ok (.istore_n 2, 1) := by decide +kernel
theorem dX9_remainingOf_2 : decode cX9_remainingOf 2 = .ok (.iconst 0, 1) := by decide +kernel
theorem dX9_remainingOf_3 : decode cX9_remainingOf 3 = .ok (.istore_n 3, 1) := by decide +kernel
theorem dX9_remainingOf_4 : decode cX9_remainingOf 4 = .ok (.iload_n 3, 1) := by decide +kernel
theorem dX9_remainingOf_5 : decode cX9_remainingOf 5 = .ok (.aload_n 0, 1) := by decide +kernel
theorem dX9_remainingOf_6 : decode cX9_remainingOf 6 = .ok (.getfield 42, 3) := by decide +kernel
theorem dX9_remainingOf_9 : decode cX9_remainingOf 9 = .ok (.if_icmp .ge 34, 3) := by decide +kernel
theorem dX9_remainingOf_12 : decode cX9_remainingOf 12 = .ok (.aload_n 0, 1) := by decide +kernel
theorem dX9_remainingOf_13 : decode cX9_remainingOf 13 = .ok (.getfield 27, 3) := by decide +kernel
theorem dX9_remainingOf_16 : decode cX9_remainingOf 16 = .ok (.iload_n 3, 1) := by decide +kernel
theorem dX9_remainingOf_17 : decode cX9_remainingOf 17 = .ok (.aaload, 1) := by decide +kernel
theorem dX9_remainingOf_18 : decode cX9_remainingOf 18 = .ok (.getfield 97, 3) := by decide +kernel
theorem dX9_remainingOf_21 : decode cX9_remainingOf 21 = .ok (.iload_n 1, 1) := by decide +kernel
theorem dX9_remainingOf_22 : decode cX9_remainingOf 22 = .ok (.if_icmp .ne 15, 3) := by decide +kernel
theorem dX9_remainingOf_25 : decode cX9_remainingOf 25 = .ok (.iload_n 2, 1) := by decide +kernel
theorem dX9_remainingOf_26 : decode cX9_remainingOf 26 = .ok (.aload_n 0, 1) := by decide +kernel
theorem dX9_remainingOf_27 : decode cX9_remainingOf 27 = .ok (.getfield 27, 3) := by decide +kernel
theorem dX9_remainingOf_30 : decode cX9_remainingOf 30 = .ok (.iload_n 3, 1) := by decide +kernel
theorem dX9_remainingOf_31 : decode cX9_remainingOf 31 = .ok (.aaload, 1) := by decide +kernel
theorem dX9_remainingOf_32 : decode cX9_remainingOf 32 = .ok (.getfield 112, 3) := by decide +kernel
theorem dX9_remainingOf_35 : decode cX9_remainingOf 35 = .ok (.iadd, 1) := by decide +kernel
theorem dX9_remainingOf_36 : decode cX9_remainingOf 36 = .ok (.istore_n 2, 1) := by decide +kernel
theorem dX9_remainingOf_37 : decode cX9_remainingOf 37 = .ok (.iinc 3 1, 3) := by decide +kernel
theorem dX9_remainingOf_40 : decode cX9_remainingOf 40 = .ok (.goto (-36), 3) := by decide +kernel
theorem dX9_remainingOf_43 : decode cX9_remainingOf 43 = .ok (.iload_n 2, 1) := by decide +kernel
theorem dX9_remainingOf_44 : decode cX9_remainingOf 44 = .ok (.ireturn, 1) := by decide +kernel
theorem dX9_countLate_0 : decode cX9_countLate 0 = .ok (.iconst 0, 1) := by decide +kernel
theorem dX9_countLate_1 : decode cX9_countLate 1 = .ok (.istore_n 1, 1) := by decide +kernel
theorem dX9_countLate_2 : decode cX9_countLate 2 = .ok (.iconst 0, 1) := by decide +kernel
theorem dX9_countLate_3 : decode cX9_countLate 3 = .ok (.istore_n 2, 1) := by decide +kernel
theorem dX9_countLate_4 : decode cX9_countLate 4 = .ok (.iload_n 2, 1) := by decide +kernel
theorem dX9_countLate_5 : decode cX9_countLate 5 = .ok (.aload_n 0, 1) := by decide +kernel
theorem dX9_countLate_6 : decode cX9_countLate 6 = .ok (.getfield 42, 3) := by decide +kernel
theorem dX9_countLate_9 : decode cX9_countLate 9 = .ok (.if_icmp .ge 24, 3) := by decide +kernel
theorem dX9_countLate_12 : decode cX9_countLate 12 = .ok (.aload_n 0, 1) := by decide +kernel
theorem dX9_countLate_13 : decode cX9_countLate 13 = .ok (.getfield 27, 3) := by decide +kernel
theorem dX9_countLate_16 : decode cX9_countLate 16 = .ok (.iload_n 2, 1) := by decide +kernel
theorem dX9_countLate_17 : decode cX9_countLate 17 = .ok (.aaload, 1) := by decide +kernel
theorem dX9_countLate_18 : decode cX9_countLate 18 = .ok (.invokevirtual 125, 3) := by decide +kernel
theorem dX9_countLate_21 : decode cX9_countLate 21 = .ok (.ifCond .eq 6, 3) := by decide +kernel
theorem dX9_countLate_24 : decode cX9_countLate 24 = .ok (.iinc 1 1, 3) := by decide +kernel
theorem dX9_countLate_27 : decode cX9_countLate 27 = .ok (.iinc 2 1, 3) := by decide +kernel
theorem dX9_countLate_30 : decode cX9_countLate 30 = .ok (.goto (-26), 3) := by decide +kernel
theorem dX9_countLate_33 : decode cX9_countLate 33 = .ok (.iload_n 1, 1) := by decide +kernel
theorem dX9_countLate_34 : decode cX9_countLate 34 = .ok (.ireturn, 1) := by decide +kernel
theorem dX9_worstLateness_0 : decode cX9_worstLateness 0 = .ok (.sipush (-999), 3) := by decide +kernel
theorem dX9_worstLateness_3 : decode cX9_worstLateness 3 = .ok (.istore_n 1, 1) := by decide +kernel
theorem dX9_worstLateness_4 : decode cX9_worstLateness 4 = .ok (.iconst 0, 1) := by decide +kernel
theorem dX9_worstLateness_5 : decode cX9_worstLateness 5 = .ok (.istore_n 2, 1) := by decide +kernel
theorem dX9_worstLateness_6 : decode cX9_worstLateness 6 = .ok (.iload_n 2, 1) := by decide +kernel
theorem dX9_worstLateness_7 : decode cX9_worstLateness 7 = .ok (.aload_n 0, 1) := by decide +kernel
theorem dX9_worstLateness_8 : decode cX9_worstLateness 8 = .ok (.getfield 42, 3) := by decide +kernel
theorem dX9_worstLateness_11 : decode cX9_worstLateness 11 = .ok (.if_icmp .ge 64, 3) := by decide +kernel
theorem dX9_worstLateness_14 : decode cX9_worstLateness 14 = .ok (.aload_n 0, 1) := by decide +kernel
theorem dX9_worstLateness_15 : decode cX9_worstLateness 15 = .ok (.getfield 27, 3) := by decide +kernel
theorem dX9_worstLateness_18 : decode cX9_worstLateness 18 = .ok (.iload_n 2, 1) := by decide +kernel
theorem dX9_worstLateness_19 : decode cX9_worstLateness 19 = .ok (.aaload, 1) := by decide +kernel
theorem dX9_worstLateness_20 : decode cX9_worstLateness 20 = .ok (.getfield 112, 3) := by decide +kernel
theorem dX9_worstLateness_23 : decode cX9_worstLateness 23 = .ok (.ifCond .ne 46, 3) := by decide +kernel
theorem dX9_worstLateness_26 : decode cX9_worstLateness 26 = .ok (.aload_n 0, 1) := by decide +kernel
theorem dX9_worstLateness_27 : decode cX9_worstLateness 27 = .ok (.getfield 27, 3) := by decide +kernel
theorem dX9_worstLateness_30 : decode cX9_worstLateness 30 = .ok (.iload_n 2, 1) := by decide +kernel
theorem dX9_worstLateness_31 : decode cX9_worstLateness 31 = .ok (.aaload, 1) := by decide +kernel
theorem dX9_worstLateness_32 : decode cX9_worstLateness 32 = .ok (.getfield 115, 3) := by decide +kernel
theorem dX9_worstLateness_35 : decode cX9_worstLateness 35 = .ok (.aload_n 0, 1) := by decide +kernel
theorem dX9_worstLateness_36 : decode cX9_worstLateness 36 = .ok (.getfield 27, 3) := by decide +kernel
theorem dX9_worstLateness_39 : decode cX9_worstLateness 39 = .ok (.iload_n 2, 1) := by decide +kernel
theorem dX9_worstLateness_40 : decode cX9_worstLateness 40 = .ok (.aaload, 1) := by decide +kernel
theorem dX9_worstLateness_41 : decode cX9_worstLateness 41 = .ok (.getfield 106, 3) := by decide +kernel
theorem dX9_worstLateness_44 : decode cX9_worstLateness 44 = .ok (.isub, 1) := by decide +kernel
theorem dX9_worstLateness_45 : decode cX9_worstLateness 45 = .ok (.iload_n 1, 1) := by decide +kernel
theorem dX9_worstLateness_46 : decode cX9_worstLateness 46 = .ok (.if_icmp .le 23, 3) := by decide +kernel
theorem dX9_worstLateness_49 : decode cX9_worstLateness 49 = .ok (.aload_n 0, 1) := by decide +kernel
theorem dX9_worstLateness_50 : decode cX9_worstLateness 50 = .ok (.getfield 27, 3) := by decide +kernel
theorem dX9_worstLateness_53 : decode cX9_worstLateness 53 = .ok (.iload_n 2, 1) := by decide +kernel
theorem dX9_worstLateness_54 : decode cX9_worstLateness 54 = .ok (.aaload, 1) := by decide +kernel
theorem dX9_worstLateness_55 : decode cX9_worstLateness 55 = .ok (.getfield 115, 3) := by decide +kernel
theorem dX9_worstLateness_58 : decode cX9_worstLateness 58 = .ok (.aload_n 0, 1) := by decide +kernel
theorem dX9_worstLateness_59 : decode cX9_worstLateness 59 = .ok (.getfield 27, 3) := by decide +kernel
theorem dX9_worstLateness_62 : decode cX9_worstLateness 62 = .ok (.iload_n 2, 1) := by decide +kernel
theorem dX9_worstLateness_63 : decode cX9_worstLateness 63 = .ok (.aaload, 1) := by decide +kernel
theorem dX9_worstLateness_64 : decode cX9_worstLateness 64 = .ok (.getfield 106, 3) := by decide +kernel
theorem dX9_worstLateness_67 : decode cX9_worstLateness 67 = .ok (.isub, 1) := by decide +kernel
theorem dX9_worstLateness_68 : decode cX9_worstLateness 68 = .ok (.istore_n 1, 1) := by decide +kernel
theorem dX9_worstLateness_69 : decode cX9_worstLateness 69 = .ok (.iinc 2 1, 3) := by decide +kernel
theorem dX9_worstLateness_72 : decode cX9_worstLateness 72 = .ok (.goto (-66), 3) := by decide +kernel
theorem dX9_worstLateness_75 : decode cX9_worstLateness 75 = .ok (.iload_n 1, 1) := by decide +kernel
theorem dX9_worstLateness_76 : decode cX9_worstLateness 76 = .ok (.ireturn, 1) := by decide +kernel
theorem dX9_totalTurnaround_0 : decode cX9_totalTurnaround 0 = .ok (.iconst 0, 1) := by decide +kernel
theorem dX9_totalTurnaround_1 : decode cX9_totalTurnaround 1 = .ok (.istore_n 1, 1) := by decide +kernel
theorem dX9_totalTurnaround_2 : decode cX9_totalTurnaround 2 = .ok (.iconst 0, 1) := by decide +kernel
theorem dX9_totalTurnaround_3 : decode cX9_totalTurnaround 3 = .ok (.istore_n 2, 1) := by decide +kernel
theorem dX9_totalTurnaround_4 : decode cX9_totalTurnaround 4 = .ok (.iload_n 2, 1) := by decide +kernel
theorem dX9_totalTurnaround_5 : decode cX9_totalTurnaround 5 = .ok (.aload_n 0, 1) := by decide +kernel
theorem dX9_totalTurnaround_6 : decode cX9_totalTurnaround 6 = .ok (.getfield 42, 3) := by decide +kernel
theorem dX9_totalTurnaround_9 : decode cX9_totalTurnaround 9 = .ok (.if_icmp .ge 43, 3) := by decide +kernel
theorem dX9_totalTurnaround_12 : decode cX9_totalTurnaround 12 = .ok (.aload_n 0, 1) := by decide +kernel
theorem dX9_totalTurnaround_13 : decode cX9_totalTurnaround 13 = .ok (.getfield 27, 3) := by decide +kernel
theorem dX9_totalTurnaround_16 : decode cX9_totalTurnaround 16 = .ok (.iload_n 2, 1) := by decide +kernel
theorem dX9_totalTurnaround_17 : decode cX9_totalTurnaround 17 = .ok (.aaload, 1) := by decide +kernel
theorem dX9_totalTurnaround_18 : decode cX9_totalTurnaround 18 = .ok (.getfield 112, 3) := by decide +kernel
theorem dX9_totalTurnaround_21 : decode cX9_totalTurnaround 21 = .ok (.ifCond .ne 25, 3) := by decide +kernel
theorem dX9_totalTurnaround_24 : decode cX9_totalTurnaround 24 = .ok (.iload_n 1, 1) := by decide +kernel
theorem dX9_totalTurnaround_25 : decode cX9_totalTurnaround 25 = .ok (.aload_n 0, 1) := by decide +kernel
theorem dX9_totalTurnaround_26 : decode cX9_totalTurnaround 26 = .ok (.getfield 27, 3) := by decide +kernel
theorem dX9_totalTurnaround_29 : decode cX9_totalTurnaround 29 = .ok (.iload_n 2, 1) := by decide +kernel
theorem dX9_totalTurnaround_30 : decode cX9_totalTurnaround 30 = .ok (.aaload, 1) := by decide +kernel
theorem dX9_totalTurnaround_31 : decode cX9_totalTurnaround 31 = .ok (.getfield 115, 3) := by decide +kernel
theorem dX9_totalTurnaround_34 : decode cX9_totalTurnaround 34 = .ok (.aload_n 0, 1) := by decide +kernel
theorem dX9_totalTurnaround_35 : decode cX9_totalTurnaround 35 = .ok (.getfield 27, 3) := by decide +kernel
theorem dX9_totalTurnaround_38 : decode cX9_totalTurnaround 38 = .ok (.iload_n 2, 1) := by decide +kernel
theorem dX9_totalTurnaround_39 : decode cX9_totalTurnaround 39 = .ok (.aaload, 1) := by decide +kernel
theorem dX9_totalTurnaround_40 : decode cX9_totalTurnaround 40 = .ok (.getfield 103, 3) := by decide +kernel
theorem dX9_totalTurnaround_43 : decode cX9_totalTurnaround 43 = .ok (.isub, 1) := by decide +kernel
theorem dX9_totalTurnaround_44 : decode cX9_totalTurnaround 44 = .ok (.iadd, 1) := by decide +kernel
theorem dX9_totalTurnaround_45 : decode cX9_totalTurnaround 45 = .ok (.istore_n 1, 1) := by decide +kernel
theorem dX9_totalTurnaround_46 : decode cX9_totalTurnaround 46 = .ok (.iinc 2 1, 3) := by decide +kernel
theorem dX9_totalTurnaround_49 : decode cX9_totalTurnaround 49 = .ok (.goto (-45), 3) := by decide +kernel
theorem dX9_totalTurnaround_52 : decode cX9_totalTurnaround 52 = .ok (.iload_n 1, 1) := by decide +kernel
theorem dX9_totalTurnaround_53 : decode cX9_totalTurnaround 53 = .ok (.ireturn, 1) := by decide +kernel
theorem dX9_totalWaiting_0 : decode cX9_totalWaiting 0 = .ok (.iconst 0, 1) := by decide +kernel
theorem dX9_totalWaiting_1 : decode cX9_totalWaiting 1 = .ok (.istore_n 1, 1) := by decide +kernel
theorem dX9_totalWaiting_2 : decode cX9_totalWaiting 2 = .ok (.iconst 0, 1) := by decide +kernel
theorem dX9_totalWaiting_3 : decode cX9_totalWaiting 3 = .ok (.istore_n 2, 1) := by decide +kernel
theorem dX9_totalWaiting_4 : decode cX9_totalWaiting 4 = .ok (.iload_n 2, 1) := by decide +kernel
theorem dX9_totalWaiting_5 : decode cX9_totalWaiting 5 = .ok (.aload_n 0, 1) := by decide +kernel
theorem dX9_totalWaiting_6 : decode cX9_totalWaiting 6 = .ok (.getfield 42, 3) := by decide +kernel
theorem dX9_totalWaiting_9 : decode cX9_totalWaiting 9 = .ok (.if_icmp .ge 25, 3) := by decide +kernel
theorem dX9_totalWaiting_12 : decode cX9_totalWaiting 12 = .ok (.iload_n 1, 1) := by decide +kernel
theorem dX9_totalWaiting_13 : decode cX9_totalWaiting 13 = .ok (.aload_n 0, 1) := by decide +kernel
theorem dX9_totalWaiting_14 : decode cX9_totalWaiting 14 = .ok (.getfield 27, 3) := by decide +kernel
theorem dX9_totalWaiting_17 : decode cX9_totalWaiting 17 = .ok (.iload_n 2, 1) := by decide +kernel
theorem dX9_totalWaiting_18 : decode cX9_totalWaiting 18 = .ok (.aaload, 1) := by decide +kernel
theorem dX9_totalWaiting_19 : decode cX9_totalWaiting 19 = .ok (.aload_n 0, 1) := by decide +kernel
theorem dX9_totalWaiting_20 : decode cX9_totalWaiting 20 = .ok (.getfield 45, 3) := by decide +kernel
theorem dX9_totalWaiting_23 : decode cX9_totalWaiting 23 = .ok (.invokevirtual 129, 3) := by decide +kernel
theorem dX9_totalWaiting_26 : decode cX9_totalWaiting 26 = .ok (.iadd, 1) := by decide +kernel
theorem dX9_totalWaiting_27 : decode cX9_totalWaiting 27 = .ok (.istore_n 1, 1) := by decide +kernel
theorem dX9_totalWaiting_28 : decode cX9_totalWaiting 28 = .ok (.iinc 2 1, 3) := by decide +kernel
theorem dX9_totalWaiting_31 : decode cX9_totalWaiting 31 = .ok (.goto (-27), 3) := by decide +kernel
theorem dX9_totalWaiting_34 : decode cX9_totalWaiting 34 = .ok (.iload_n 1, 1) := by decide +kernel
theorem dX9_totalWaiting_35 : decode cX9_totalWaiting 35 = .ok (.ireturn, 1) := by decide +kernel
theorem dX9_selectBy_0 : decode cX9_selectBy 0 = .ok (.iload_n 1, 1) := by decide +kernel
theorem dX9_selectBy_1 : decode cX9_selectBy 1 = .ok (.iconst 4, 1) := by decide +kernel
theorem dX9_selectBy_2 : decode cX9_selectBy 2 = .ok (.if_icmp .ne 8, 3) := by decide +kernel
theorem dX9_selectBy_5 : decode cX9_selectBy 5 = .ok (.aload_n 0, 1) := by decide +kernel
theorem dX9_selectBy_6 : decode cX9_selectBy 6 = .ok (.invokevirtual 133, 3) := by decide +kernel
theorem dX9_selectBy_9 : decode cX9_selectBy 9 = .ok (.ireturn, 1) := by decide +kernel
theorem dX9_selectBy_10 : decode cX9_selectBy 10 = .ok (.aload_n 0, 1) := by decide +kernel
theorem dX9_selectBy_11 : decode cX9_selectBy 11 = .ok (.getfield 35, 3) := by decide +kernel
theorem dX9_selectBy_14 : decode cX9_selectBy 14 = .ok (.iconst (-1), 1) := by decide +kernel
theorem dX9_selectBy_15 : decode cX9_selectBy 15 = .ok (.if_icmp .eq 17, 3) := by decide +kernel
theorem dX9_selectBy_18 : decode cX9_selectBy 18 = .ok (.iload_n 1, 1) := by decide +kernel
theorem dX9_selectBy_19 : decode cX9_selectBy 19 = .ok (.ifCond .eq 8, 3) := by decide +kernel
theorem dX9_selectBy_22 : decode cX9_selectBy 22 = .ok (.iload_n 1, 1) := by decide +kernel
theorem dX9_selectBy_23 : decode cX9_selectBy 23 = .ok (.iconst 3, 1) := by decide +kernel
theorem dX9_selectBy_24 : decode cX9_selectBy 24 = .ok (.if_icmp .ne 8, 3) := by decide +kernel
theorem dX9_selectBy_27 : decode cX9_selectBy 27 = .ok (.aload_n 0, 1) := by decide +kernel
theorem dX9_selectBy_28 : decode cX9_selectBy 28 = .ok (.getfield 35, 3) := by decide +kernel
theorem dX9_selectBy_31 : decode cX9_selectBy 31 = .ok (.ireturn, 1) := by decide +kernel
theorem dX9_selectBy_32 : decode cX9_selectBy 32 = .ok (.aload_n 0, 1) := by decide +kernel
theorem dX9_selectBy_33 : decode cX9_selectBy 33 = .ok (.getfield 35, 3) := by decide +kernel
theorem dX9_selectBy_36 : decode cX9_selectBy 36 = .ok (.istore_n 2, 1) := by decide +kernel
theorem dX9_selectBy_37 : decode cX9_selectBy 37 = .ok (.aload_n 0, 1) := by decide +kernel
theorem dX9_selectBy_38 : decode cX9_selectBy 38 = .ok (.getfield 35, 3) := by decide +kernel
theorem dX9_selectBy_41 : decode cX9_selectBy 41 = .ok (.iconst (-1), 1) := by decide +kernel
theorem dX9_selectBy_42 : decode cX9_selectBy 42 = .ok (.if_icmp .ne 7, 3) := by decide +kernel
theorem dX9_selectBy_45 : decode cX9_selectBy 45 = .ok (.iconst 0, 1) := by decide +kernel
theorem dX9_selectBy_46 : decode cX9_selectBy 46 = .ok (.goto 17, 3) := by decide +kernel
theorem dX9_selectBy_49 : decode cX9_selectBy 49 = .ok (.aload_n 0, 1) := by decide +kernel
theorem dX9_selectBy_50 : decode cX9_selectBy 50 = .ok (.iload_n 1, 1) := by decide +kernel
theorem dX9_selectBy_51 : decode cX9_selectBy 51 = .ok (.aload_n 0, 1) := by decide +kernel
theorem dX9_selectBy_52 : decode cX9_selectBy 52 = .ok (.getfield 27, 3) := by decide +kernel
theorem dX9_selectBy_55 : decode cX9_selectBy 55 = .ok (.aload_n 0, 1) := by decide +kernel
theorem dX9_selectBy_56 : decode cX9_selectBy 56 = .ok (.getfield 35, 3) := by decide +kernel
theorem dX9_selectBy_59 : decode cX9_selectBy 59 = .ok (.aaload, 1) := by decide +kernel
theorem dX9_selectBy_60 : decode cX9_selectBy 60 = .ok (.invokevirtual 137, 3) := by decide +kernel
theorem dX9_selectBy_63 : decode cX9_selectBy 63 = .ok (.istore_n 3, 1) := by decide +kernel
theorem dX9_selectBy_64 : decode cX9_selectBy 64 = .ok (.iconst 0, 1) := by decide +kernel
theorem dX9_selectBy_65 : decode cX9_selectBy 65 = .ok (.istore 4, 2) := by decide +kernel
theorem dX9_selectBy_67 : decode cX9_selectBy 67 = .ok (.iload 4, 2) := by decide +kernel
theorem dX9_selectBy_69 : decode cX9_selectBy 69 = .ok (.aload_n 0, 1) := by decide +kernel
theorem dX9_selectBy_70 : decode cX9_selectBy 70 = .ok (.getfield 42, 3) := by decide +kernel
theorem dX9_selectBy_73 : decode cX9_selectBy 73 = .ok (.if_icmp .ge 57, 3) := by decide +kernel
theorem dX9_selectBy_76 : decode cX9_selectBy 76 = .ok (.aload_n 0, 1) := by decide +kernel
theorem dX9_selectBy_77 : decode cX9_selectBy 77 = .ok (.getfield 27, 3) := by decide +kernel
theorem dX9_selectBy_80 : decode cX9_selectBy 80 = .ok (.iload 4, 2) := by decide +kernel
theorem dX9_selectBy_82 : decode cX9_selectBy 82 = .ok (.aaload, 1) := by decide +kernel
theorem dX9_selectBy_83 : decode cX9_selectBy 83 = .ok (.aload_n 0, 1) := by decide +kernel
theorem dX9_selectBy_84 : decode cX9_selectBy 84 = .ok (.getfield 45, 3) := by decide +kernel
theorem dX9_selectBy_87 : decode cX9_selectBy 87 = .ok (.invokevirtual 121, 3) := by decide +kernel
theorem dX9_selectBy_90 : decode cX9_selectBy 90 = .ok (.ifCond .eq 34, 3) := by decide +kernel
theorem dX9_selectBy_93 : decode cX9_selectBy 93 = .ok (.aload_n 0, 1) := by decide +kernel
theorem dX9_selectBy_94 : decode cX9_selectBy 94 = .ok (.iload_n 1, 1) := by decide +kernel
theorem dX9_selectBy_95 : decode cX9_selectBy 95 = .ok (.aload_n 0, 1) := by decide +kernel
theorem dX9_selectBy_96 : decode cX9_selectBy 96 = .ok (.getfield 27, 3) := by decide +kernel
theorem dX9_selectBy_99 : decode cX9_selectBy 99 = .ok (.iload 4, 2) := by decide +kernel
theorem dX9_selectBy_101 : decode cX9_selectBy 101 = .ok (.aaload, 1) := by decide +kernel
theorem dX9_selectBy_102 : decode cX9_selectBy 102 = .ok (.invokevirtual 137, 3) := by decide +kernel
theorem dX9_selectBy_105 : decode cX9_selectBy 105 = .ok (.istore 5, 2) := by decide +kernel
theorem dX9_selectBy_107 : decode cX9_selectBy 107 = .ok (.iload_n 2, 1) := by decide +kernel
theorem dX9_selectBy_108 : decode cX9_selectBy 108 = .ok (.iconst (-1), 1) := by decide +kernel
theorem dX9_selectBy_109 : decode cX9_selectBy 109 = .ok (.if_icmp .eq 9, 3) := by decide +kernel
theorem dX9_selectBy_112 : decode cX9_selectBy 112 = .ok (.iload 5, 2) := by decide +kernel
theorem dX9_selectBy_114 : decode cX9_selectBy 114 = .ok (.iload_n 3, 1) := by decide +kernel
theorem dX9_selectBy_115 : decode cX9_selectBy 115 = .ok (.if_icmp .ge 9, 3) := by decide +kernel
theorem dX9_selectBy_118 : decode cX9_selectBy 118 = .ok (.iload 4, 2) := by decide +kernel
theorem dX9_selectBy_120 : decode cX9_selectBy 120 = .ok (.istore_n 2, 1) := by decide +kernel
theorem dX9_selectBy_121 : decode cX9_selectBy 121 = .ok (.iload 5, 2) := by decide +kernel
theorem dX9_selectBy_123 : decode cX9_selectBy 123 = .ok (.istore_n 3, 1) := by decide +kernel
theorem dX9_selectBy_124 : decode cX9_selectBy 124 = .ok (.iinc 4 1, 3) := by decide +kernel
theorem dX9_selectBy_127 : decode cX9_selectBy 127 = .ok (.goto (-60), 3) := by decide +kernel
theorem dX9_selectBy_130 : decode cX9_selectBy 130 = .ok (.iload_n 2, 1) := by decide +kernel
theorem dX9_selectBy_131 : decode cX9_selectBy 131 = .ok (.ireturn, 1) := by decide +kernel
theorem dX9_rankBy_0 : decode cX9_rankBy 0 = .ok (.iload_n 1, 1) := by decide +kernel
theorem dX9_rankBy_1 : decode cX9_rankBy 1 = .ok (.tableswitch 42 0 2 #[27, 32, 37], 27) := by decide +kernel
theorem dX9_rankBy_28 : decode cX9_rankBy 28 = .ok (.aload_n 2, 1) := by decide +kernel
theorem dX9_rankBy_29 : decode cX9_rankBy 29 = .ok (.getfield 103, 3) := by decide +kernel
theorem dX9_rankBy_32 : decode cX9_rankBy 32 = .ok (.ireturn, 1) := by decide +kernel
theorem dX9_rankBy_33 : decode cX9_rankBy 33 = .ok (.aload_n 2, 1) := by decide +kernel
theorem dX9_rankBy_34 : decode cX9_rankBy 34 = .ok (.getfield 112, 3) := by decide +kernel
theorem dX9_rankBy_37 : decode cX9_rankBy 37 = .ok (.ireturn, 1) := by decide +kernel
theorem dX9_rankBy_38 : decode cX9_rankBy 38 = .ok (.aload_n 2, 1) := by decide +kernel
theorem dX9_rankBy_39 : decode cX9_rankBy 39 = .ok (.getfield 106, 3) := by decide +kernel
theorem dX9_rankBy_42 : decode cX9_rankBy 42 = .ok (.ireturn, 1) := by decide +kernel
theorem dX9_rankBy_43 : decode cX9_rankBy 43 = .ok (.aload_n 0, 1) := by decide +kernel
theorem dX9_rankBy_44 : decode cX9_rankBy 44 = .ok (.getfield 12, 3) := by decide +kernel
theorem dX9_rankBy_47 : decode cX9_rankBy 47 = .ok (.aload_n 2, 1) := by decide +kernel
theorem dX9_rankBy_48 : decode cX9_rankBy 48 = .ok (.getfield 109, 3) := by decide +kernel
theorem dX9_rankBy_51 : decode cX9_rankBy 51 = .ok (.aload_n 2, 1) := by decide +kernel
theorem dX9_rankBy_52 : decode cX9_rankBy 52 = .ok (.aload_n 0, 1) := by decide +kernel
theorem dX9_rankBy_53 : decode cX9_rankBy 53 = .ok (.getfield 45, 3) := by decide +kernel
theorem dX9_rankBy_56 : decode cX9_rankBy 56 = .ok (.invokevirtual 129, 3) := by decide +kernel
theorem dX9_rankBy_59 : decode cX9_rankBy 59 = .ok (.invokevirtual 141, 3) := by decide +kernel
theorem dX9_rankBy_62 : decode cX9_rankBy 62 = .ok (.ineg, 1) := by decide +kernel
theorem dX9_rankBy_63 : decode cX9_rankBy 63 = .ok (.ireturn, 1) := by decide +kernel
theorem dX9_selectInTurn_0 : decode cX9_selectInTurn 0 = .ok (.aload_n 0, 1) := by decide +kernel
theorem dX9_selectInTurn_1 : decode cX9_selectInTurn 1 = .ok (.getfield 35, 3) := by decide +kernel
theorem dX9_selectInTurn_4 : decode cX9_selectInTurn 4 = .ok (.iconst (-1), 1) := by decide +kernel
theorem dX9_selectInTurn_5 : decode cX9_selectInTurn 5 = .ok (.if_icmp .eq 22, 3) := by decide +kernel
theorem dX9_selectInTurn_8 : decode cX9_selectInTurn 8 = .ok (.aload_n 0, 1) := by decide +kernel
theorem dX9_selectInTurn_9 : decode cX9_selectInTurn 9 = .ok (.getfield 48, 3) := by decide +kernel
theorem dX9_selectInTurn_12 : decode cX9_selectInTurn 12 = .ok (.aload_n 0, 1) := by decide +kernel
theorem dX9_selectInTurn_13 : decode cX9_selectInTurn 13 = .ok (.getfield 12, 3) := by decide +kernel
theorem dX9_selectInTurn_16 : decode cX9_selectInTurn 16 = .ok (.getfield 145, 3) := by decide +kernel
theorem dX9_selectInTurn_19 : decode cX9_selectInTurn 19 = .ok (.if_icmp .ge 8, 3) := by decide +kernel
theorem dX9_selectInTurn_22 : decode cX9_selectInTurn 22 = .ok (.aload_n 0, 1) := by decide +kernel
theorem dX9_selectInTurn_23 : decode cX9_selectInTurn 23 = .ok (.getfield 35, 3) := by decide +kernel
theorem dX9_selectInTurn_26 : decode cX9_selectInTurn 26 = .ok (.ireturn, 1) := by decide +kernel
theorem dX9_selectInTurn_27 : decode cX9_selectInTurn 27 = .ok (.aload_n 0, 1) := by decide +kernel
theorem dX9_selectInTurn_28 : decode cX9_selectInTurn 28 = .ok (.getfield 38, 3) := by decide +kernel
theorem dX9_selectInTurn_31 : decode cX9_selectInTurn 31 = .ok (.iconst 1, 1) := by decide +kernel
theorem dX9_selectInTurn_32 : decode cX9_selectInTurn 32 = .ok (.iadd, 1) := by decide +kernel
theorem dX9_selectInTurn_33 : decode cX9_selectInTurn 33 = .ok (.istore_n 1, 1) := by decide +kernel
theorem dX9_selectInTurn_34 : decode cX9_selectInTurn 34 = .ok (.iconst 0, 1) := by decide +kernel
theorem dX9_selectInTurn_35 : decode cX9_selectInTurn 35 = .ok (.istore_n 2, 1) := by decide +kernel
theorem dX9_selectInTurn_36 : decode cX9_selectInTurn 36 = .ok (.iload_n 2, 1) := by decide +kernel
theorem dX9_selectInTurn_37 : decode cX9_selectInTurn 37 = .ok (.aload_n 0, 1) := by decide +kernel
theorem dX9_selectInTurn_38 : decode cX9_selectInTurn 38 = .ok (.getfield 42, 3) := by decide +kernel
theorem dX9_selectInTurn_41 : decode cX9_selectInTurn 41 = .ok (.if_icmp .ge 40, 3) := by decide +kernel
theorem dX9_selectInTurn_44 : decode cX9_selectInTurn 44 = .ok (.iload_n 1, 1) := by decide +kernel
theorem dX9_selectInTurn_45 : decode cX9_selectInTurn 45 = .ok (.aload_n 0, 1) := by decide +kernel
theorem dX9_selectInTurn_46 : decode cX9_selectInTurn 46 = .ok (.getfield 42, 3) := by decide +kernel
theorem dX9_selectInTurn_49 : decode cX9_selectInTurn 49 = .ok (.if_icmp .lt 5, 3) := by decide +kernel
theorem dX9_selectInTurn_52 : decode cX9_selectInTurn 52 = .ok (.iconst 0, 1) := by decide +kernel
theorem dX9_selectInTurn_53 : decode cX9_selectInTurn 53 = .ok (.istore_n 1, 1) := by decide +kernel
theorem dX9_selectInTurn_54 : decode cX9_selectInTurn 54 = .ok (.aload_n 0, 1) := by decide +kernel
theorem dX9_selectInTurn_55 : decode cX9_selectInTurn 55 = .ok (.getfield 27, 3) := by decide +kernel
theorem dX9_selectInTurn_58 : decode cX9_selectInTurn 58 = .ok (.iload_n 1, 1) := by decide +kernel
theorem dX9_selectInTurn_59 : decode cX9_selectInTurn 59 = .ok (.aaload, 1) := by decide +kernel
theorem dX9_selectInTurn_60 : decode cX9_selectInTurn 60 = .ok (.aload_n 0, 1) := by decide +kernel
theorem dX9_selectInTurn_61 : decode cX9_selectInTurn 61 = .ok (.getfield 45, 3) := by decide +kernel
theorem dX9_selectInTurn_64 : decode cX9_selectInTurn 64 = .ok (.invokevirtual 121, 3) := by decide +kernel
theorem dX9_selectInTurn_67 : decode cX9_selectInTurn 67 = .ok (.ifCond .eq 5, 3) := by decide +kernel
theorem dX9_selectInTurn_70 : decode cX9_selectInTurn 70 = .ok (.iload_n 1, 1) := by decide +kernel
theorem dX9_selectInTurn_71 : decode cX9_selectInTurn 71 = .ok (.ireturn, 1) := by decide +kernel
theorem dX9_selectInTurn_72 : decode cX9_selectInTurn 72 = .ok (.iinc 1 1, 3) := by decide +kernel
theorem dX9_selectInTurn_75 : decode cX9_selectInTurn 75 = .ok (.iinc 2 1, 3) := by decide +kernel
theorem dX9_selectInTurn_78 : decode cX9_selectInTurn 78 = .ok (.goto (-42), 3) := by decide +kernel
theorem dX9_selectInTurn_81 : decode cX9_selectInTurn 81 = .ok (.iconst (-1), 1) := by decide +kernel
theorem dX9_selectInTurn_82 : decode cX9_selectInTurn 82 = .ok (.ireturn, 1) := by decide +kernel
theorem dX9_nextByDeadline_0 : decode cX9_nextByDeadline 0 = .ok (.iconst (-1), 1) := by decide +kernel
theorem dX9_nextByDeadline_1 : decode cX9_nextByDeadline 1 = .ok (.istore_n 2, 1) := by decide +kernel
theorem dX9_nextByDeadline_2 : decode cX9_nextByDeadline 2 = .ok (.iconst 0, 1) := by decide +kernel
theorem dX9_nextByDeadline_3 : decode cX9_nextByDeadline 3 = .ok (.istore_n 3, 1) := by decide +kernel
theorem dX9_nextByDeadline_4 : decode cX9_nextByDeadline 4 = .ok (.iload_n 3, 1) := by decide +kernel
theorem dX9_nextByDeadline_5 : decode cX9_nextByDeadline 5 = .ok (.aload_n 0, 1) := by decide +kernel
theorem dX9_nextByDeadline_6 : decode cX9_nextByDeadline 6 = .ok (.getfield 42, 3) := by decide +kernel
theorem dX9_nextByDeadline_9 : decode cX9_nextByDeadline 9 = .ok (.if_icmp .ge 51, 3) := by decide +kernel
theorem dX9_nextByDeadline_12 : decode cX9_nextByDeadline 12 = .ok (.aload_n 0, 1) := by decide +kernel
theorem dX9_nextByDeadline_13 : decode cX9_nextByDeadline 13 = .ok (.getfield 27, 3) := by decide +kernel
theorem dX9_nextByDeadline_16 : decode cX9_nextByDeadline 16 = .ok (.iload_n 3, 1) := by decide +kernel
theorem dX9_nextByDeadline_17 : decode cX9_nextByDeadline 17 = .ok (.aaload, 1) := by decide +kernel
theorem dX9_nextByDeadline_18 : decode cX9_nextByDeadline 18 = .ok (.getfield 112, 3) := by decide +kernel
theorem dX9_nextByDeadline_21 : decode cX9_nextByDeadline 21 = .ok (.ifCond .le 33, 3) := by decide +kernel
theorem dX9_nextByDeadline_24 : decode cX9_nextByDeadline 24 = .ok (.iload_n 1, 1) := by decide +kernel
theorem dX9_nextByDeadline_25 : decode cX9_nextByDeadline 25 = .ok (.iconst (-1), 1) := by decide +kernel
theorem dX9_nextByDeadline_26 : decode cX9_nextByDeadline 26 = .ok (.if_icmp .eq 12, 3) := by decide +kernel
theorem dX9_nextByDeadline_29 : decode cX9_nextByDeadline 29 = .ok (.aload_n 0, 1) := by decide +kernel
theorem dX9_nextByDeadline_30 : decode cX9_nextByDeadline 30 = .ok (.iload_n 1, 1) := by decide +kernel
theorem dX9_nextByDeadline_31 : decode cX9_nextByDeadline 31 = .ok (.iload_n 3, 1) := by decide +kernel
theorem dX9_nextByDeadline_32 : decode cX9_nextByDeadline 32 = .ok (.invokevirtual 148, 3) := by decide +kernel
theorem dX9_nextByDeadline_35 : decode cX9_nextByDeadline 35 = .ok (.ifCond .eq 19, 3) := by decide +kernel
theorem dX9_nextByDeadline_38 : decode cX9_nextByDeadline 38 = .ok (.iload_n 2, 1) := by decide +kernel
theorem dX9_nextByDeadline_39 : decode cX9_nextByDeadline 39 = .ok (.iconst (-1), 1) := by decide +kernel
theorem dX9_nextByDeadline_40 : decode cX9_nextByDeadline 40 = .ok (.if_icmp .eq 12, 3) := by decide +kernel
theorem dX9_nextByDeadline_43 : decode cX9_nextByDeadline 43 = .ok (.aload_n 0, 1) := by decide +kernel
theorem dX9_nextByDeadline_44 : decode cX9_nextByDeadline 44 = .ok (.iload_n 3, 1) := by decide +kernel
theorem dX9_nextByDeadline_45 : decode cX9_nextByDeadline 45 = .ok (.iload_n 2, 1) := by decide +kernel
theorem dX9_nextByDeadline_46 : decode cX9_nextByDeadline 46 = .ok (.invokevirtual 148, 3) := by decide +kernel
theorem dX9_nextByDeadline_49 : decode cX9_nextByDeadline 49 = .ok (.ifCond .eq 5, 3) := by decide +kernel
theorem dX9_nextByDeadline_52 : decode cX9_nextByDeadline 52 = .ok (.iload_n 3, 1) := by decide +kernel
theorem dX9_nextByDeadline_53 : decode cX9_nextByDeadline 53 = .ok (.istore_n 2, 1) := by decide +kernel
theorem dX9_nextByDeadline_54 : decode cX9_nextByDeadline 54 = .ok (.iinc 3 1, 3) := by decide +kernel
theorem dX9_nextByDeadline_57 : decode cX9_nextByDeadline 57 = .ok (.goto (-53), 3) := by decide +kernel
theorem dX9_nextByDeadline_60 : decode cX9_nextByDeadline 60 = .ok (.iload_n 2, 1) := by decide +kernel
theorem dX9_nextByDeadline_61 : decode cX9_nextByDeadline 61 = .ok (.ireturn, 1) := by decide +kernel
theorem dX9_isDueBefore_0 : decode cX9_isDueBefore 0 = .ok (.aload_n 0, 1) := by decide +kernel
theorem dX9_isDueBefore_1 : decode cX9_isDueBefore 1 = .ok (.getfield 27, 3) := by decide +kernel
theorem dX9_isDueBefore_4 : decode cX9_isDueBefore 4 = .ok (.iload_n 1, 1) := by decide +kernel
theorem dX9_isDueBefore_5 : decode cX9_isDueBefore 5 = .ok (.aaload, 1) := by decide +kernel
theorem dX9_isDueBefore_6 : decode cX9_isDueBefore 6 = .ok (.getfield 106, 3) := by decide +kernel
theorem dX9_isDueBefore_9 : decode cX9_isDueBefore 9 = .ok (.aload_n 0, 1) := by decide +kernel
theorem dX9_isDueBefore_10 : decode cX9_isDueBefore 10 = .ok (.getfield 27, 3) := by decide +kernel
theorem dX9_isDueBefore_13 : decode cX9_isDueBefore 13 = .ok (.iload_n 2, 1) := by decide +kernel
theorem dX9_isDueBefore_14 : decode cX9_isDueBefore 14 = .ok (.aaload, 1) := by decide +kernel
theorem dX9_isDueBefore_15 : decode cX9_isDueBefore 15 = .ok (.getfield 106, 3) := by decide +kernel
theorem dX9_isDueBefore_18 : decode cX9_isDueBefore 18 = .ok (.if_icmp .eq 30, 3) := by decide +kernel
theorem dX9_isDueBefore_21 : decode cX9_isDueBefore 21 = .ok (.aload_n 0, 1) := by decide +kernel
theorem dX9_isDueBefore_22 : decode cX9_isDueBefore 22 = .ok (.getfield 27, 3) := by decide +kernel
theorem dX9_isDueBefore_25 : decode cX9_isDueBefore 25 = .ok (.iload_n 1, 1) := by decide +kernel
theorem dX9_isDueBefore_26 : decode cX9_isDueBefore 26 = .ok (.aaload, 1) := by decide +kernel
theorem dX9_isDueBefore_27 : decode cX9_isDueBefore 27 = .ok (.getfield 106, 3) := by decide +kernel
theorem dX9_isDueBefore_30 : decode cX9_isDueBefore 30 = .ok (.aload_n 0, 1) := by decide +kernel
theorem dX9_isDueBefore_31 : decode cX9_isDueBefore 31 = .ok (.getfield 27, 3) := by decide +kernel
theorem dX9_isDueBefore_34 : decode cX9_isDueBefore 34 = .ok (.iload_n 2, 1) := by decide +kernel
theorem dX9_isDueBefore_35 : decode cX9_isDueBefore 35 = .ok (.aaload, 1) := by decide +kernel
theorem dX9_isDueBefore_36 : decode cX9_isDueBefore 36 = .ok (.getfield 106, 3) := by decide +kernel
theorem dX9_isDueBefore_39 : decode cX9_isDueBefore 39 = .ok (.if_icmp .ge 7, 3) := by decide +kernel
theorem dX9_isDueBefore_42 : decode cX9_isDueBefore 42 = .ok (.iconst 1, 1) := by decide +kernel
theorem dX9_isDueBefore_43 : decode cX9_isDueBefore 43 = .ok (.goto 4, 3) := by decide +kernel
theorem dX9_isDueBefore_46 : decode cX9_isDueBefore 46 = .ok (.iconst 0, 1) := by decide +kernel
theorem dX9_isDueBefore_47 : decode cX9_isDueBefore 47 = .ok (.ireturn, 1) := by decide +kernel
theorem dX9_isDueBefore_48 : decode cX9_isDueBefore 48 = .ok (.iload_n 1, 1) := by decide +kernel
theorem dX9_isDueBefore_49 : decode cX9_isDueBefore 49 = .ok (.iload_n 2, 1) := by decide +kernel
theorem dX9_isDueBefore_50 : decode cX9_isDueBefore 50 = .ok (.if_icmp .ge 7, 3) := by decide +kernel
theorem dX9_isDueBefore_53 : decode cX9_isDueBefore 53 = .ok (.iconst 1, 1) := by decide +kernel
theorem dX9_isDueBefore_54 : decode cX9_isDueBefore 54 = .ok (.goto 4, 3) := by decide +kernel
theorem dX9_isDueBefore_57 : decode cX9_isDueBefore 57 = .ok (.iconst 0, 1) := by decide +kernel
theorem dX9_isDueBefore_58 : decode cX9_isDueBefore 58 = .ok (.ireturn, 1) := by decide +kernel
theorem dX9_runMinutes_0 : decode cX9_runMinutes 0 = .ok (.iconst 0, 1) := by decide +kernel
theorem dX9_runMinutes_1 : decode cX9_runMinutes 1 = .ok (.istore_n 2, 1) := by decide +kernel
theorem dX9_runMinutes_2 : decode cX9_runMinutes 2 = .ok (.iconst 0, 1) := by decide +kernel
theorem dX9_runMinutes_3 : decode cX9_runMinutes 3 = .ok (.istore_n 3, 1) := by decide +kernel
theorem dX9_runMinutes_4 : decode cX9_runMinutes 4 = .ok (.iload_n 3, 1) := by decide +kernel
theorem dX9_runMinutes_5 : decode cX9_runMinutes 5 = .ok (.iload_n 1, 1) := by decide +kernel
theorem dX9_runMinutes_6 : decode cX9_runMinutes 6 = .ok (.if_icmp .ge 23, 3) := by decide +kernel
theorem dX9_runMinutes_9 : decode cX9_runMinutes 9 = .ok (.aload_n 0, 1) := by decide +kernel
theorem dX9_runMinutes_10 : decode cX9_runMinutes 10 = .ok (.aload_n 0, 1) := by decide +kernel
theorem dX9_runMinutes_11 : decode cX9_runMinutes 11 = .ok (.invokevirtual 152, 3) := by decide +kernel
theorem dX9_runMinutes_14 : decode cX9_runMinutes 14 = .ok (.invokevirtual 155, 3) := by decide +kernel
theorem dX9_runMinutes_17 : decode cX9_runMinutes 17 = .ok (.ifCond .eq 6, 3) := by decide +kernel
theorem dX9_runMinutes_20 : decode cX9_runMinutes 20 = .ok (.iinc 2 1, 3) := by decide +kernel
theorem dX9_runMinutes_23 : decode cX9_runMinutes 23 = .ok (.iinc 3 1, 3) := by decide +kernel
theorem dX9_runMinutes_26 : decode cX9_runMinutes 26 = .ok (.goto (-22), 3) := by decide +kernel
theorem dX9_runMinutes_29 : decode cX9_runMinutes 29 = .ok (.iload_n 2, 1) := by decide +kernel
theorem dX9_runMinutes_30 : decode cX9_runMinutes 30 = .ok (.ireturn, 1) := by decide +kernel
theorem dX9_isFinished_0 : decode cX9_isFinished 0 = .ok (.iload_n 1, 1) := by decide +kernel
theorem dX9_isFinished_1 : decode cX9_isFinished 1 = .ok (.iconst (-1), 1) := by decide +kernel
theorem dX9_isFinished_2 : decode cX9_isFinished 2 = .ok (.if_icmp .eq 19, 3) := by decide +kernel
theorem dX9_isFinished_5 : decode cX9_isFinished 5 = .ok (.aload_n 0, 1) := by decide +kernel
theorem dX9_isFinished_6 : decode cX9_isFinished 6 = .ok (.getfield 27, 3) := by decide +kernel
theorem dX9_isFinished_9 : decode cX9_isFinished 9 = .ok (.iload_n 1, 1) := by decide +kernel
theorem dX9_isFinished_10 : decode cX9_isFinished 10 = .ok (.aaload, 1) := by decide +kernel
theorem dX9_isFinished_11 : decode cX9_isFinished 11 = .ok (.getfield 112, 3) := by decide +kernel
theorem dX9_isFinished_14 : decode cX9_isFinished 14 = .ok (.ifCond .ne 7, 3) := by decide +kernel
theorem dX9_isFinished_17 : decode cX9_isFinished 17 = .ok (.iconst 1, 1) := by decide +kernel
theorem dX9_isFinished_18 : decode cX9_isFinished 18 = .ok (.goto 4, 3) := by decide +kernel
theorem dX9_isFinished_21 : decode cX9_isFinished 21 = .ok (.iconst 0, 1) := by decide +kernel
theorem dX9_isFinished_22 : decode cX9_isFinished 22 = .ok (.ireturn, 1) := by decide +kernel
theorem dX9_runMinute_0 : decode cX9_runMinute 0 = .ok (.iconst (-1), 1) := by decide +kernel
theorem dX9_runMinute_1 : decode cX9_runMinute 1 = .ok (.istore_n 1, 1) := by decide +kernel
theorem dX9_runMinute_2 : decode cX9_runMinute 2 = .ok (.aload_n 0, 1) := by decide +kernel
theorem dX9_runMinute_3 : decode cX9_runMinute 3 = .ok (.getfield 57, 3) := by decide +kernel
theorem dX9_runMinute_6 : decode cX9_runMinute 6 = .ok (.ifCond .le 10, 3) := by decide +kernel
theorem dX9_runMinute_9 : decode cX9_runMinute 9 = .ok (.aload_n 0, 1) := by decide +kernel
theorem dX9_runMinute_10 : decode cX9_runMinute 10 = .ok (.invokevirtual 158, 3) := by decide +kernel
theorem dX9_runMinute_13 : decode cX9_runMinute 13 = .ok (.goto 83, 3) := by decide +kernel
theorem dX9_runMinute_16 : decode cX9_runMinute 16 = .ok (.aload_n 0, 1) := by decide +kernel
theorem dX9_runMinute_17 : decode cX9_runMinute 17 = .ok (.getfield 60, 3) := by decide +kernel
theorem dX9_runMinute_20 : decode cX9_runMinute 20 = .ok (.ifCond .le 26, 3) := by decide +kernel
theorem dX9_runMinute_23 : decode cX9_runMinute 23 = .ok (.aload_n 0, 1) := by decide +kernel
theorem dX9_runMinute_24 : decode cX9_runMinute 24 = .ok (.dup, 1) := by decide +kernel
theorem dX9_runMinute_25 : decode cX9_runMinute 25 = .ok (.getfield 78, 3) := by decide +kernel
theorem dX9_runMinute_28 : decode cX9_runMinute 28 = .ok (.iconst 1, 1) := by decide +kernel
theorem dX9_runMinute_29 : decode cX9_runMinute 29 = .ok (.iadd, 1) := by decide +kernel
theorem dX9_runMinute_30 : decode cX9_runMinute 30 = .ok (.putfield 78, 3) := by decide +kernel
theorem dX9_runMinute_33 : decode cX9_runMinute 33 = .ok (.aload_n 0, 1) := by decide +kernel
theorem dX9_runMinute_34 : decode cX9_runMinute 34 = .ok (.dup, 1) := by decide +kernel
theorem dX9_runMinute_35 : decode cX9_runMinute 35 = .ok (.getfield 60, 3) := by decide +kernel
theorem dX9_runMinute_38 : decode cX9_runMinute 38 = .ok (.iconst 1, 1) := by decide +kernel
theorem dX9_runMinute_39 : decode cX9_runMinute 39 = .ok (.isub, 1) := by decide +kernel
theorem dX9_runMinute_40 : decode cX9_runMinute 40 = .ok (.putfield 60, 3) := by decide +kernel
theorem dX9_runMinute_43 : decode cX9_runMinute 43 = .ok (.goto 53, 3) := by decide +kernel
theorem dX9_runMinute_46 : decode cX9_runMinute 46 = .ok (.aload_n 0, 1) := by decide +kernel
theorem dX9_runMinute_47 : decode cX9_runMinute 47 = .ok (.aload_n 0, 1) := by decide +kernel
theorem dX9_runMinute_48 : decode cX9_runMinute 48 = .ok (.getfield 91, 3) := by decide +kernel
theorem dX9_runMinute_51 : decode cX9_runMinute 51 = .ok (.invokevirtual 161, 3) := by decide +kernel
theorem dX9_runMinute_54 : decode cX9_runMinute 54 = .ok (.istore_n 2, 1) := by decide +kernel
theorem dX9_runMinute_55 : decode cX9_runMinute 55 = .ok (.iload_n 2, 1) := by decide +kernel
theorem dX9_runMinute_56 : decode cX9_runMinute 56 = .ok (.iconst (-1), 1) := by decide +kernel
theorem dX9_runMinute_57 : decode cX9_runMinute 57 = .ok (.if_icmp .ne 16, 3) := by decide +kernel
theorem dX9_runMinute_60 : decode cX9_runMinute 60 = .ok (.aload_n 0, 1) := by decide +kernel
theorem dX9_runMinute_61 : decode cX9_runMinute 61 = .ok (.dup, 1) := by decide +kernel
theorem dX9_runMinute_62 : decode cX9_runMinute 62 = .ok (.getfield 72, 3) := by decide +kernel
theorem dX9_runMinute_65 : decode cX9_runMinute 65 = .ok (.iconst 1, 1) := by decide +kernel
theorem dX9_runMinute_66 : decode cX9_runMinute 66 = .ok (.iadd, 1) := by decide +kernel
theorem dX9_runMinute_67 : decode cX9_runMinute 67 = .ok (.putfield 72, 3) := by decide +kernel
theorem dX9_runMinute_70 : decode cX9_runMinute 70 = .ok (.goto 26, 3) := by decide +kernel
theorem dX9_runMinute_73 : decode cX9_runMinute 73 = .ok (.aload_n 0, 1) := by decide +kernel
theorem dX9_runMinute_74 : decode cX9_runMinute 74 = .ok (.aload_n 0, 1) := by decide +kernel
theorem dX9_runMinute_75 : decode cX9_runMinute 75 = .ok (.getfield 27, 3) := by decide +kernel
theorem dX9_runMinute_78 : decode cX9_runMinute 78 = .ok (.iload_n 2, 1) := by decide +kernel
theorem dX9_runMinute_79 : decode cX9_runMinute 79 = .ok (.aaload, 1) := by decide +kernel
theorem dX9_runMinute_80 : decode cX9_runMinute 80 = .ok (.getfield 97, 3) := by decide +kernel
theorem dX9_runMinute_83 : decode cX9_runMinute 83 = .ok (.invokevirtual 164, 3) := by decide +kernel
theorem dX9_runMinute_86 : decode cX9_runMinute 86 = .ok (.ifCond .ne 10, 3) := by decide +kernel
theorem dX9_runMinute_89 : decode cX9_runMinute 89 = .ok (.aload_n 0, 1) := by decide +kernel
theorem dX9_runMinute_90 : decode cX9_runMinute 90 = .ok (.iload_n 2, 1) := by decide +kernel
theorem dX9_runMinute_91 : decode cX9_runMinute 91 = .ok (.invokevirtual 167, 3) := by decide +kernel
theorem dX9_runMinute_94 : decode cX9_runMinute 94 = .ok (.iload_n 2, 1) := by decide +kernel
theorem dX9_runMinute_95 : decode cX9_runMinute 95 = .ok (.istore_n 1, 1) := by decide +kernel
theorem dX9_runMinute_96 : decode cX9_runMinute 96 = .ok (.aload_n 0, 1) := by decide +kernel
theorem dX9_runMinute_97 : decode cX9_runMinute 97 = .ok (.dup, 1) := by decide +kernel
theorem dX9_runMinute_98 : decode cX9_runMinute 98 = .ok (.getfield 45, 3) := by decide +kernel
theorem dX9_runMinute_101 : decode cX9_runMinute 101 = .ok (.iconst 1, 1) := by decide +kernel
theorem dX9_runMinute_102 : decode cX9_runMinute 102 = .ok (.iadd, 1) := by decide +kernel
theorem dX9_runMinute_103 : decode cX9_runMinute 103 = .ok (.putfield 45, 3) := by decide +kernel
theorem dX9_runMinute_106 : decode cX9_runMinute 106 = .ok (.iload_n 1, 1) := by decide +kernel
theorem dX9_runMinute_107 : decode cX9_runMinute 107 = .ok (.ireturn, 1) := by decide +kernel
theorem dX9_refill_0 : decode cX9_refill 0 = .ok (.aload_n 0, 1) := by decide +kernel
theorem dX9_refill_1 : decode cX9_refill 1 = .ok (.dup, 1) := by decide +kernel
theorem dX9_refill_2 : decode cX9_refill 2 = .ok (.getfield 75, 3) := by decide +kernel
theorem dX9_refill_5 : decode cX9_refill 5 = .ok (.iconst 1, 1) := by decide +kernel
theorem dX9_refill_6 : decode cX9_refill 6 = .ok (.iadd, 1) := by decide +kernel
theorem dX9_refill_7 : decode cX9_refill 7 = .ok (.putfield 75, 3) := by decide +kernel
theorem dX9_refill_10 : decode cX9_refill 10 = .ok (.aload_n 0, 1) := by decide +kernel
theorem dX9_refill_11 : decode cX9_refill 11 = .ok (.dup, 1) := by decide +kernel
theorem dX9_refill_12 : decode cX9_refill 12 = .ok (.getfield 57, 3) := by decide +kernel
theorem dX9_refill_15 : decode cX9_refill 15 = .ok (.iconst 1, 1) := by decide +kernel
theorem dX9_refill_16 : decode cX9_refill 16 = .ok (.isub, 1) := by decide +kernel
theorem dX9_refill_17 : decode cX9_refill 17 = .ok (.putfield 57, 3) := by decide +kernel
theorem dX9_refill_20 : decode cX9_refill 20 = .ok (.aload_n 0, 1) := by decide +kernel
theorem dX9_refill_21 : decode cX9_refill 21 = .ok (.getfield 57, 3) := by decide +kernel
theorem dX9_refill_24 : decode cX9_refill 24 = .ok (.ifCond .ne 14, 3) := by decide +kernel
theorem dX9_refill_27 : decode cX9_refill 27 = .ok (.aload_n 0, 1) := by decide +kernel
theorem dX9_refill_28 : decode cX9_refill 28 = .ok (.aload_n 0, 1) := by decide +kernel
theorem dX9_refill_29 : decode cX9_refill 29 = .ok (.getfield 12, 3) := by decide +kernel
theorem dX9_refill_32 : decode cX9_refill 32 = .ok (.getfield 51, 3) := by decide +kernel
theorem dX9_refill_35 : decode cX9_refill 35 = .ok (.putfield 54, 3) := by decide +kernel
theorem dX9_refill_38 : decode cX9_refill 38 = .ok (.return_, 1) := by decide +kernel
theorem dX9_beginsHandOverTo_0 : decode cX9_beginsHandOverTo 0 = .ok (.iload_n 1, 1) := by decide +kernel
theorem dX9_beginsHandOverTo_1 : decode cX9_beginsHandOverTo 1 = .ok (.aload_n 0, 1) := by decide +kernel
theorem dX9_beginsHandOverTo_2 : decode cX9_beginsHandOverTo 2 = .ok (.getfield 31, 3) := by decide +kernel
theorem dX9_beginsHandOverTo_5 : decode cX9_beginsHandOverTo 5 = .ok (.if_icmp .ne 5, 3) := by decide +kernel
theorem dX9_beginsHandOverTo_8 : decode cX9_beginsHandOverTo 8 = .ok (.iconst 0, 1) := by decide +kernel
theorem dX9_beginsHandOverTo_9 : decode cX9_beginsHandOverTo 9 = .ok (.ireturn, 1) := by decide +kernel
theorem dX9_beginsHandOverTo_10 : decode cX9_beginsHandOverTo 10 = .ok (.aload_n 0, 1) := by decide +kernel
theorem dX9_beginsHandOverTo_11 : decode cX9_beginsHandOverTo 11 = .ok (.iload_n 1, 1) := by decide +kernel
theorem dX9_beginsHandOverTo_12 : decode cX9_beginsHandOverTo 12 = .ok (.putfield 31, 3) := by decide +kernel
theorem dX9_beginsHandOverTo_15 : decode cX9_beginsHandOverTo 15 = .ok (.aload_n 0, 1) := by decide +kernel
theorem dX9_beginsHandOverTo_16 : decode cX9_beginsHandOverTo 16 = .ok (.dup, 1) := by decide +kernel
theorem dX9_beginsHandOverTo_17 : decode cX9_beginsHandOverTo 17 = .ok (.getfield 66, 3) := by decide +kernel
theorem dX9_beginsHandOverTo_20 : decode cX9_beginsHandOverTo 20 = .ok (.iconst 1, 1) := by decide +kernel
theorem dX9_beginsHandOverTo_21 : decode cX9_beginsHandOverTo 21 = .ok (.iadd, 1) := by decide +kernel
theorem dX9_beginsHandOverTo_22 : decode cX9_beginsHandOverTo 22 = .ok (.putfield 66, 3) := by decide +kernel
theorem dX9_beginsHandOverTo_25 : decode cX9_beginsHandOverTo 25 = .ok (.aload_n 0, 1) := by decide +kernel
theorem dX9_beginsHandOverTo_26 : decode cX9_beginsHandOverTo 26 = .ok (.getfield 12, 3) := by decide +kernel
theorem dX9_beginsHandOverTo_29 : decode cX9_beginsHandOverTo 29 = .ok (.getfield 171, 3) := by decide +kernel
theorem dX9_beginsHandOverTo_32 : decode cX9_beginsHandOverTo 32 = .ok (.ifCond .ne 5, 3) := by decide +kernel
theorem dX9_beginsHandOverTo_35 : decode cX9_beginsHandOverTo 35 = .ok (.iconst 0, 1) := by decide +kernel
theorem dX9_beginsHandOverTo_36 : decode cX9_beginsHandOverTo 36 = .ok (.ireturn, 1) := by decide +kernel
theorem dX9_beginsHandOverTo_37 : decode cX9_beginsHandOverTo 37 = .ok (.aload_n 0, 1) := by decide +kernel
theorem dX9_beginsHandOverTo_38 : decode cX9_beginsHandOverTo 38 = .ok (.dup, 1) := by decide +kernel
theorem dX9_beginsHandOverTo_39 : decode cX9_beginsHandOverTo 39 = .ok (.getfield 78, 3) := by decide +kernel
theorem dX9_beginsHandOverTo_42 : decode cX9_beginsHandOverTo 42 = .ok (.iconst 1, 1) := by decide +kernel
theorem dX9_beginsHandOverTo_43 : decode cX9_beginsHandOverTo 43 = .ok (.iadd, 1) := by decide +kernel
theorem dX9_beginsHandOverTo_44 : decode cX9_beginsHandOverTo 44 = .ok (.putfield 78, 3) := by decide +kernel
theorem dX9_beginsHandOverTo_47 : decode cX9_beginsHandOverTo 47 = .ok (.aload_n 0, 1) := by decide +kernel
theorem dX9_beginsHandOverTo_48 : decode cX9_beginsHandOverTo 48 = .ok (.aload_n 0, 1) := by decide +kernel
theorem dX9_beginsHandOverTo_49 : decode cX9_beginsHandOverTo 49 = .ok (.getfield 12, 3) := by decide +kernel
theorem dX9_beginsHandOverTo_52 : decode cX9_beginsHandOverTo 52 = .ok (.getfield 171, 3) := by decide +kernel
theorem dX9_beginsHandOverTo_55 : decode cX9_beginsHandOverTo 55 = .ok (.iconst 1, 1) := by decide +kernel
theorem dX9_beginsHandOverTo_56 : decode cX9_beginsHandOverTo 56 = .ok (.isub, 1) := by decide +kernel
theorem dX9_beginsHandOverTo_57 : decode cX9_beginsHandOverTo 57 = .ok (.putfield 60, 3) := by decide +kernel
theorem dX9_beginsHandOverTo_60 : decode cX9_beginsHandOverTo 60 = .ok (.iconst 1, 1) := by decide +kernel
theorem dX9_beginsHandOverTo_61 : decode cX9_beginsHandOverTo 61 = .ok (.ireturn, 1) := by decide +kernel
theorem dX9_write_0 : decode cX9_write 0 = .ok (.aload_n 0, 1) := by decide +kernel
theorem dX9_write_1 : decode cX9_write 1 = .ok (.getfield 35, 3) := by decide +kernel
theorem dX9_write_4 : decode cX9_write 4 = .ok (.iconst (-1), 1) := by decide +kernel
theorem dX9_write_5 : decode cX9_write 5 = .ok (.if_icmp .eq 24, 3) := by decide +kernel
theorem dX9_write_8 : decode cX9_write 8 = .ok (.aload_n 0, 1) := by decide +kernel
theorem dX9_write_9 : decode cX9_write 9 = .ok (.getfield 35, 3) := by decide +kernel
theorem dX9_write_12 : decode cX9_write 12 = .ok (.iload_n 1, 1) := by decide +kernel
theorem dX9_write_13 : decode cX9_write 13 = .ok (.if_icmp .eq 16, 3) := by decide +kernel
theorem dX9_write_16 : decode cX9_write 16 = .ok (.aload_n 0, 1) := by decide +kernel
theorem dX9_write_17 : decode cX9_write 17 = .ok (.aload_n 0, 1) := by decide +kernel
theorem dX9_write_18 : decode cX9_write 18 = .ok (.getfield 27, 3) := by decide +kernel
theorem dX9_write_21 : decode cX9_write 21 = .ok (.aload_n 0, 1) := by decide +kernel
theorem dX9_write_22 : decode cX9_write 22 = .ok (.getfield 35, 3) := by decide +kernel
theorem dX9_write_25 : decode cX9_write 25 = .ok (.aaload, 1) := by decide +kernel
theorem dX9_write_26 : decode cX9_write 26 = .ok (.invokevirtual 174, 3) := by decide +kernel
theorem dX9_write_29 : decode cX9_write 29 = .ok (.aload_n 0, 1) := by decide +kernel
theorem dX9_write_30 : decode cX9_write 30 = .ok (.getfield 91, 3) := by decide +kernel
theorem dX9_write_33 : decode cX9_write 33 = .ok (.iconst 4, 1) := by decide +kernel
theorem dX9_write_34 : decode cX9_write 34 = .ok (.if_icmp .ne 21, 3) := by decide +kernel
theorem dX9_write_37 : decode cX9_write 37 = .ok (.aload_n 0, 1) := by decide +kernel
theorem dX9_write_38 : decode cX9_write 38 = .ok (.getfield 48, 3) := by decide +kernel
theorem dX9_write_41 : decode cX9_write 41 = .ok (.aload_n 0, 1) := by decide +kernel
theorem dX9_write_42 : decode cX9_write 42 = .ok (.getfield 12, 3) := by decide +kernel
theorem dX9_write_45 : decode cX9_write 45 = .ok (.getfield 145, 3) := by decide +kernel
theorem dX9_write_48 : decode cX9_write 48 = .ok (.if_icmp .lt 7, 3) := by decide +kernel
theorem dX9_write_51 : decode cX9_write 51 = .ok (.iconst 1, 1) := by decide +kernel
theorem dX9_write_52 : decode cX9_write 52 = .ok (.goto 4, 3) := by decide +kernel
theorem dX9_write_55 : decode cX9_write 55 = .ok (.iconst 0, 1) := by decide +kernel
theorem dX9_write_56 : decode cX9_write 56 = .ok (.istore_n 2, 1) := by decide +kernel
theorem dX9_write_57 : decode cX9_write 57 = .ok (.aload_n 0, 1) := by decide +kernel
theorem dX9_write_58 : decode cX9_write 58 = .ok (.iload_n 1, 1) := by decide +kernel
theorem dX9_write_59 : decode cX9_write 59 = .ok (.aload_n 0, 1) := by decide +kernel
theorem dX9_write_60 : decode cX9_write 60 = .ok (.getfield 38, 3) := by decide +kernel
theorem dX9_write_63 : decode cX9_write 63 = .ok (.if_icmp .ne 7, 3) := by decide +kernel
theorem dX9_write_66 : decode cX9_write 66 = .ok (.iload_n 2, 1) := by decide +kernel
theorem dX9_write_67 : decode cX9_write 67 = .ok (.ifCond .eq 7, 3) := by decide +kernel
theorem dX9_write_70 : decode cX9_write 70 = .ok (.iconst 1, 1) := by decide +kernel
theorem dX9_write_71 : decode cX9_write 71 = .ok (.goto 9, 3) := by decide +kernel
theorem dX9_write_74 : decode cX9_write 74 = .ok (.aload_n 0, 1) := by decide +kernel
theorem dX9_write_75 : decode cX9_write 75 = .ok (.getfield 48, 3) := by decide +kernel
theorem dX9_write_78 : decode cX9_write 78 = .ok (.iconst 1, 1) := by decide +kernel
theorem dX9_write_79 : decode cX9_write 79 = .ok (.iadd, 1) := by decide +kernel
theorem dX9_write_80 : decode cX9_write 80 = .ok (.putfield 48, 3) := by decide +kernel
theorem dX9_write_83 : decode cX9_write 83 = .ok (.aload_n 0, 1) := by decide +kernel
theorem dX9_write_84 : decode cX9_write 84 = .ok (.iload_n 1, 1) := by decide +kernel
theorem dX9_write_85 : decode cX9_write 85 = .ok (.putfield 38, 3) := by decide +kernel
theorem dX9_write_88 : decode cX9_write 88 = .ok (.aload_n 0, 1) := by decide +kernel
theorem dX9_write_89 : decode cX9_write 89 = .ok (.iload_n 1, 1) := by decide +kernel
theorem dX9_write_90 : decode cX9_write 90 = .ok (.putfield 35, 3) := by decide +kernel
theorem dX9_write_93 : decode cX9_write 93 = .ok (.aload_n 0, 1) := by decide +kernel
theorem dX9_write_94 : decode cX9_write 94 = .ok (.getfield 27, 3) := by decide +kernel
theorem dX9_write_97 : decode cX9_write 97 = .ok (.iload_n 1, 1) := by decide +kernel
theorem dX9_write_98 : decode cX9_write 98 = .ok (.aaload, 1) := by decide +kernel
theorem dX9_write_99 : decode cX9_write 99 = .ok (.astore_n 3, 1) := by decide +kernel
theorem dX9_write_100 : decode cX9_write 100 = .ok (.aload_n 3, 1) := by decide +kernel
theorem dX9_write_101 : decode cX9_write 101 = .ok (.dup, 1) := by decide +kernel
theorem dX9_write_102 : decode cX9_write 102 = .ok (.getfield 112, 3) := by decide +kernel
theorem dX9_write_105 : decode cX9_write 105 = .ok (.iconst 1, 1) := by decide +kernel
theorem dX9_write_106 : decode cX9_write 106 = .ok (.isub, 1) := by decide +kernel
theorem dX9_write_107 : decode cX9_write 107 = .ok (.putfield 112, 3) := by decide +kernel
theorem dX9_write_110 : decode cX9_write 110 = .ok (.aload_n 3, 1) := by decide +kernel
theorem dX9_write_111 : decode cX9_write 111 = .ok (.dup, 1) := by decide +kernel
theorem dX9_write_112 : decode cX9_write 112 = .ok (.getfield 118, 3) := by decide +kernel
theorem dX9_write_115 : decode cX9_write 115 = .ok (.iconst 1, 1) := by decide +kernel
theorem dX9_write_116 : decode cX9_write 116 = .ok (.iadd, 1) := by decide +kernel
theorem dX9_write_117 : decode cX9_write 117 = .ok (.putfield 118, 3) := by decide +kernel
theorem dX9_write_120 : decode cX9_write 120 = .ok (.aload_n 0, 1) := by decide +kernel
theorem dX9_write_121 : decode cX9_write 121 = .ok (.dup, 1) := by decide +kernel
theorem dX9_write_122 : decode cX9_write 122 = .ok (.getfield 69, 3) := by decide +kernel
theorem dX9_write_125 : decode cX9_write 125 = .ok (.iconst 1, 1) := by decide +kernel
theorem dX9_write_126 : decode cX9_write 126 = .ok (.iadd, 1) := by decide +kernel
theorem dX9_write_127 : decode cX9_write 127 = .ok (.putfield 69, 3) := by decide +kernel
theorem dX9_write_130 : decode cX9_write 130 = .ok (.aload_n 3, 1) := by decide +kernel
theorem dX9_write_131 : decode cX9_write 131 = .ok (.getfield 112, 3) := by decide +kernel
theorem dX9_write_134 : decode cX9_write 134 = .ok (.ifCond .ne 18, 3) := by decide +kernel
theorem dX9_write_137 : decode cX9_write 137 = .ok (.aload_n 3, 1) := by decide +kernel
theorem dX9_write_138 : decode cX9_write 138 = .ok (.aload_n 0, 1) := by decide +kernel
theorem dX9_write_139 : decode cX9_write 139 = .ok (.getfield 45, 3) := by decide +kernel
theorem dX9_write_142 : decode cX9_write 142 = .ok (.iconst 1, 1) := by decide +kernel
theorem dX9_write_143 : decode cX9_write 143 = .ok (.iadd, 1) := by decide +kernel
theorem dX9_write_144 : decode cX9_write 144 = .ok (.putfield 115, 3) := by decide +kernel
theorem dX9_write_147 : decode cX9_write 147 = .ok (.aload_n 0, 1) := by decide +kernel
theorem dX9_write_148 : decode cX9_write 148 = .ok (.iconst (-1), 1) := by decide +kernel
theorem dX9_write_149 : decode cX9_write 149 = .ok (.putfield 35, 3) := by decide +kernel
theorem dX9_write_152 : decode cX9_write 152 = .ok (.aload_n 0, 1) := by decide +kernel
theorem dX9_write_153 : decode cX9_write 153 = .ok (.invokevirtual 177, 3) := by decide +kernel
theorem dX9_write_156 : decode cX9_write 156 = .ok (.return_, 1) := by decide +kernel
theorem dX9_smear_0 : decode cX9_smear 0 = .ok (.aload_n 0, 1) := by decide +kernel
theorem dX9_smear_1 : decode cX9_smear 1 = .ok (.dup, 1) := by decide +kernel
theorem dX9_smear_2 : decode cX9_smear 2 = .ok (.getfield 63, 3) := by decide +kernel
theorem dX9_smear_5 : decode cX9_smear 5 = .ok (.iconst 1, 1) := by decide +kernel
theorem dX9_smear_6 : decode cX9_smear 6 = .ok (.iadd, 1) := by decide +kernel
theorem dX9_smear_7 : decode cX9_smear 7 = .ok (.putfield 63, 3) := by decide +kernel
theorem dX9_smear_10 : decode cX9_smear 10 = .ok (.aload_n 1, 1) := by decide +kernel
theorem dX9_smear_11 : decode cX9_smear 11 = .ok (.dup, 1) := by decide +kernel
theorem dX9_smear_12 : decode cX9_smear 12 = .ok (.getfield 112, 3) := by decide +kernel
theorem dX9_smear_15 : decode cX9_smear 15 = .ok (.aload_n 0, 1) := by decide +kernel
theorem dX9_smear_16 : decode cX9_smear 16 = .ok (.getfield 12, 3) := by decide +kernel
theorem dX9_smear_19 : decode cX9_smear 19 = .ok (.getfield 180, 3) := by decide +kernel
theorem dX9_smear_22 : decode cX9_smear 22 = .ok (.iadd, 1) := by decide +kernel
theorem dX9_smear_23 : decode cX9_smear 23 = .ok (.putfield 112, 3) := by decide +kernel
theorem dX9_smear_26 : decode cX9_smear 26 = .ok (.aload_n 1, 1) := by decide +kernel
theorem dX9_smear_27 : decode cX9_smear 27 = .ok (.getfield 112, 3) := by decide +kernel
theorem dX9_smear_30 : decode cX9_smear 30 = .ok (.aload_n 1, 1) := by decide +kernel
theorem dX9_smear_31 : decode cX9_smear 31 = .ok (.getfield 100, 3) := by decide +kernel
theorem dX9_smear_34 : decode cX9_smear 34 = .ok (.if_icmp .le 11, 3) := by decide +kernel
theorem dX9_smear_37 : decode cX9_smear 37 = .ok (.aload_n 1, 1) := by decide +kernel
theorem dX9_smear_38 : decode cX9_smear 38 = .ok (.aload_n 1, 1) := by decide +kernel
theorem dX9_smear_39 : decode cX9_smear 39 = .ok (.getfield 100, 3) := by decide +kernel
theorem dX9_smear_42 : decode cX9_smear 42 = .ok (.putfield 112, 3) := by decide +kernel
theorem dX9_smear_45 : decode cX9_smear 45 = .ok (.return_, 1) := by decide +kernel
theorem dX9_useInk_0 : decode cX9_useInk 0 = .ok (.aload_n 0, 1) := by decide +kernel
theorem dX9_useInk_1 : decode cX9_useInk 1 = .ok (.dup, 1) := by decide +kernel
theorem dX9_useInk_2 : decode cX9_useInk 2 = .ok (.getfield 54, 3) := by decide +kernel
theorem dX9_useInk_5 : decode cX9_useInk 5 = .ok (.iconst 1, 1) := by decide +kernel
theorem dX9_useInk_6 : decode cX9_useInk 6 = .ok (.isub, 1) := by decide +kernel
theorem dX9_useInk_7 : decode cX9_useInk 7 = .ok (.putfield 54, 3) := by decide +kernel
theorem dX9_useInk_10 : decode cX9_useInk 10 = .ok (.aload_n 0, 1) := by decide +kernel
theorem dX9_useInk_11 : decode cX9_useInk 11 = .ok (.getfield 54, 3) := by decide +kernel
theorem dX9_useInk_14 : decode cX9_useInk 14 = .ok (.ifCond .le 4, 3) := by decide +kernel
theorem dX9_useInk_17 : decode cX9_useInk 17 = .ok (.return_, 1) := by decide +kernel
theorem dX9_useInk_18 : decode cX9_useInk 18 = .ok (.aload_n 0, 1) := by decide +kernel
theorem dX9_useInk_19 : decode cX9_useInk 19 = .ok (.getfield 12, 3) := by decide +kernel
theorem dX9_useInk_22 : decode cX9_useInk 22 = .ok (.getfield 183, 3) := by decide +kernel
theorem dX9_useInk_25 : decode cX9_useInk 25 = .ok (.ifCond .ne 17, 3) := by decide +kernel
theorem dX9_useInk_28 : decode cX9_useInk 28 = .ok (.aload_n 0, 1) := by decide +kernel
theorem dX9_useInk_29 : decode cX9_useInk 29 = .ok (.aload_n 0, 1) := by decide +kernel
theorem dX9_useInk_30 : decode cX9_useInk 30 = .ok (.getfield 12, 3) := by decide +kernel
theorem dX9_useInk_33 : decode cX9_useInk 33 = .ok (.getfield 51, 3) := by decide +kernel
theorem dX9_useInk_36 : decode cX9_useInk 36 = .ok (.putfield 54, 3) := by decide +kernel
theorem dX9_useInk_39 : decode cX9_useInk 39 = .ok (.goto 14, 3) := by decide +kernel
theorem dX9_useInk_42 : decode cX9_useInk 42 = .ok (.aload_n 0, 1) := by decide +kernel
theorem dX9_useInk_43 : decode cX9_useInk 43 = .ok (.aload_n 0, 1) := by decide +kernel
theorem dX9_useInk_44 : decode cX9_useInk 44 = .ok (.getfield 12, 3) := by decide +kernel
theorem dX9_useInk_47 : decode cX9_useInk 47 = .ok (.getfield 183, 3) := by decide +kernel
theorem dX9_useInk_50 : decode cX9_useInk 50 = .ok (.putfield 57, 3) := by decide +kernel
theorem dX9_useInk_53 : decode cX9_useInk 53 = .ok (.return_, 1) := by decide +kernel
theorem dX10_init_0 : decode cX10_init 0 = .ok (.aload_n 0, 1) := by decide +kernel
theorem dX10_init_1 : decode cX10_init 1 = .ok (.invokespecial 1, 3) := by decide +kernel
theorem dX10_init_4 : decode cX10_init 4 = .ok (.aload_n 0, 1) := by decide +kernel
theorem dX10_init_5 : decode cX10_init 5 = .ok (.new 7, 3) := by decide +kernel
theorem dX10_init_8 : decode cX10_init 8 = .ok (.dup, 1) := by decide +kernel
theorem dX10_init_9 : decode cX10_init 9 = .ok (.invokespecial 9, 3) := by decide +kernel
theorem dX10_init_12 : decode cX10_init 12 = .ok (.putfield 10, 3) := by decide +kernel
theorem dX10_init_15 : decode cX10_init 15 = .ok (.aload_n 0, 1) := by decide +kernel
theorem dX10_init_16 : decode cX10_init 16 = .ok (.new 16, 3) := by decide +kernel
theorem dX10_init_19 : decode cX10_init 19 = .ok (.dup, 1) := by decide +kernel
theorem dX10_init_20 : decode cX10_init 20 = .ok (.invokespecial 18, 3) := by decide +kernel
theorem dX10_init_23 : decode cX10_init 23 = .ok (.putfield 19, 3) := by decide +kernel
theorem dX10_init_26 : decode cX10_init 26 = .ok (.aload_n 0, 1) := by decide +kernel
theorem dX10_init_27 : decode cX10_init 27 = .ok (.new 23, 3) := by decide +kernel
theorem dX10_init_30 : decode cX10_init 30 = .ok (.dup, 1) := by decide +kernel
theorem dX10_init_31 : decode cX10_init 31 = .ok (.invokespecial 25, 3) := by decide +kernel
theorem dX10_init_34 : decode cX10_init 34 = .ok (.putfield 26, 3) := by decide +kernel
theorem dX10_init_37 : decode cX10_init 37 = .ok (.aload_n 0, 1) := by decide +kernel
theorem dX10_init_38 : decode cX10_init 38 = .ok (.new 30, 3) := by decide +kernel
theorem dX10_init_41 : decode cX10_init 41 = .ok (.dup, 1) := by decide +kernel
theorem dX10_init_42 : decode cX10_init 42 = .ok (.invokespecial 32, 3) := by decide +kernel
theorem dX10_init_45 : decode cX10_init 45 = .ok (.putfield 33, 3) := by decide +kernel
theorem dX10_init_48 : decode cX10_init 48 = .ok (.aload_n 0, 1) := by decide +kernel
theorem dX10_init_49 : decode cX10_init 49 = .ok (.iconst 2, 1) := by decide +kernel
theorem dX10_init_50 : decode cX10_init 50 = .ok (.anewarray 7, 3) := by decide +kernel
theorem dX10_init_53 : decode cX10_init 53 = .ok (.putfield 37, 3) := by decide +kernel
theorem dX10_init_56 : decode cX10_init 56 = .ok (.aload_n 0, 1) := by decide +kernel
theorem dX10_init_57 : decode cX10_init 57 = .ok (.iconst 2, 1) := by decide +kernel
theorem dX10_init_58 : decode cX10_init 58 = .ok (.newarray .boolean, 2) := by decide +kernel
theorem dX10_init_60 : decode cX10_init 60 = .ok (.putfield 41, 3) := by decide +kernel
theorem dX10_init_63 : decode cX10_init 63 = .ok (.iconst 0, 1) := by decide +kernel
theorem dX10_init_64 : decode cX10_init 64 = .ok (.istore_n 1, 1) := by decide +kernel
theorem dX10_init_65 : decode cX10_init 65 = .ok (.iload_n 1, 1) := by decide +kernel
theorem dX10_init_66 : decode cX10_init 66 = .ok (.iconst 2, 1) := by decide +kernel
theorem dX10_init_67 : decode cX10_init 67 = .ok (.if_icmp .ge 22, 3) := by decide +kernel
theorem dX10_init_70 : decode cX10_init 70 = .ok (.aload_n 0, 1) := by decide +kernel
theorem dX10_init_71 : decode cX10_init 71 = .ok (.getfield 37, 3) := by decide +kernel
theorem dX10_init_74 : decode cX10_init 74 = .ok (.iload_n 1, 1) := by decide +kernel
theorem dX10_init_75 : decode cX10_init 75 = .ok (.new 7, 3) := by decide +kernel
theorem dX10_init_78 : decode cX10_init 78 = .ok (.dup, 1) := by decide +kernel
theorem dX10_init_79 : decode cX10_init 79 = .ok (.invokespecial 9, 3) := by decide +kernel
theorem dX10_init_82 : decode cX10_init 82 = .ok (.aastore, 1) := by decide +kernel
theorem dX10_init_83 : decode cX10_init 83 = .ok (.iinc 1 1, 3) := by decide +kernel
theorem dX10_init_86 : decode cX10_init 86 = .ok (.goto (-21), 3) := by decide +kernel
theorem dX10_init_89 : decode cX10_init 89 = .ok (.new 45, 3) := by decide +kernel
theorem dX10_init_92 : decode cX10_init 92 = .ok (.dup, 1) := by decide +kernel
theorem dX10_init_93 : decode cX10_init 93 = .ok (.invokespecial 47, 3) := by decide +kernel
theorem dX10_init_96 : decode cX10_init 96 = .ok (.astore_n 1, 1) := by decide +kernel
theorem dX10_init_97 : decode cX10_init 97 = .ok (.new 7, 3) := by decide +kernel
theorem dX10_init_100 : decode cX10_init 100 = .ok (.dup, 1) := by decide +kernel
theorem dX10_init_101 : decode cX10_init 101 = .ok (.invokespecial 9, 3) := by decide +kernel
theorem dX10_init_104 : decode cX10_init 104 = .ok (.astore_n 2, 1) := by decide +kernel
theorem dX10_init_105 : decode cX10_init 105 = .ok (.aload_n 1, 1) := by decide +kernel
theorem dX10_init_106 : decode cX10_init 106 = .ok (.ldc 48, 2) := by decide +kernel
theorem dX10_init_108 : decode cX10_init 108 = .ok (.invokevirtual 50, 3) := by decide +kernel
theorem dX10_init_111 : decode cX10_init 111 = .ok (.aload_n 1, 1) := by decide +kernel
theorem dX10_init_112 : decode cX10_init 112 = .ok (.aload_n 2, 1) := by decide +kernel
theorem dX10_init_113 : decode cX10_init 113 = .ok (.invokestatic 54, 3) := by decide +kernel
theorem dX10_init_116 : decode cX10_init 116 = .ok (.pop, 1) := by decide +kernel
theorem dX10_init_117 : decode cX10_init 117 = .ok (.aload_n 1, 1) := by decide +kernel
theorem dX10_init_118 : decode cX10_init 118 = .ok (.iconst 0, 1) := by decide +kernel
theorem dX10_init_119 : decode cX10_init 119 = .ok (.putfield 58, 3) := by decide +kernel
theorem dX10_init_122 : decode cX10_init 122 = .ok (.aload_n 0, 1) := by decide +kernel
theorem dX10_init_123 : decode cX10_init 123 = .ok (.aload_n 1, 1) := by decide +kernel
theorem dX10_init_124 : decode cX10_init 124 = .ok (.putfield 62, 3) := by decide +kernel
theorem dX10_init_127 : decode cX10_init 127 = .ok (.aload_n 0, 1) := by decide +kernel
theorem dX10_init_128 : decode cX10_init 128 = .ok (.aload_n 2, 1) := by decide +kernel
theorem dX10_init_129 : decode cX10_init 129 = .ok (.putfield 66, 3) := by decide +kernel
theorem dX10_init_132 : decode cX10_init 132 = .ok (.return_, 1) := by decide +kernel
theorem dX10_append_0 : decode cX10_append 0 = .ok (.aload_n 0, 1) := by decide +kernel
theorem dX10_append_1 : decode cX10_append 1 = .ok (.getfield 62, 3) := by decide +kernel
theorem dX10_append_4 : decode cX10_append 4 = .ok (.getfield 58, 3) := by decide +kernel
theorem dX10_append_7 : decode cX10_append 7 = .ok (.sipush 580, 3) := by decide +kernel
theorem dX10_append_10 : decode cX10_append 10 = .ok (.if_icmp .le 13, 3) := by decide +kernel
theorem dX10_append_13 : decode cX10_append 13 = .ok (.new 69, 3) := by decide +kernel
theorem dX10_append_16 : decode cX10_append 16 = .ok (.dup, 1) := by decide +kernel
theorem dX10_append_17 : decode cX10_append 17 = .ok (.ldc 71, 2) := by decide +kernel
theorem dX10_append_19 : decode cX10_append 19 = .ok (.invokespecial 73, 3) := by decide +kernel
theorem dX10_append_22 : decode cX10_append 22 = .ok (.athrow, 1) := by decide +kernel
theorem dX10_append_23 : decode cX10_append 23 = .ok (.aload_n 0, 1) := by decide +kernel
theorem dX10_append_24 : decode cX10_append 24 = .ok (.getfield 62, 3) := by decide +kernel
theorem dX10_append_27 : decode cX10_append 27 = .ok (.iload_n 1, 1) := by decide +kernel
theorem dX10_append_28 : decode cX10_append 28 = .ok (.invokevirtual 75, 3) := by decide +kernel
theorem dX10_append_31 : decode cX10_append 31 = .ok (.aload_n 0, 1) := by decide +kernel
theorem dX10_append_32 : decode cX10_append 32 = .ok (.getfield 62, 3) := by decide +kernel
theorem dX10_append_35 : decode cX10_append 35 = .ok (.iload_n 2, 1) := by decide +kernel
theorem dX10_append_36 : decode cX10_append 36 = .ok (.invokevirtual 75, 3) := by decide +kernel
theorem dX10_append_39 : decode cX10_append 39 = .ok (.aload_n 0, 1) := by decide +kernel
theorem dX10_append_40 : decode cX10_append 40 = .ok (.getfield 62, 3) := by decide +kernel
theorem dX10_append_43 : decode cX10_append 43 = .ok (.iload_n 3, 1) := by decide +kernel
theorem dX10_append_44 : decode cX10_append 44 = .ok (.invokevirtual 75, 3) := by decide +kernel
theorem dX10_append_47 : decode cX10_append 47 = .ok (.aload_n 0, 1) := by decide +kernel
theorem dX10_append_48 : decode cX10_append 48 = .ok (.getfield 62, 3) := by decide +kernel
theorem dX10_append_51 : decode cX10_append 51 = .ok (.iload 4, 2) := by decide +kernel
theorem dX10_append_53 : decode cX10_append 53 = .ok (.invokevirtual 75, 3) := by decide +kernel
theorem dX10_append_56 : decode cX10_append 56 = .ok (.aload_n 0, 1) := by decide +kernel
theorem dX10_append_57 : decode cX10_append 57 = .ok (.getfield 62, 3) := by decide +kernel
theorem dX10_append_60 : decode cX10_append 60 = .ok (.iload 5, 2) := by decide +kernel
theorem dX10_append_62 : decode cX10_append 62 = .ok (.invokevirtual 75, 3) := by decide +kernel
theorem dX10_append_65 : decode cX10_append 65 = .ok (.aload_n 0, 1) := by decide +kernel
theorem dX10_append_66 : decode cX10_append 66 = .ok (.getfield 62, 3) := by decide +kernel
theorem dX10_append_69 : decode cX10_append 69 = .ok (.getfield 58, 3) := by decide +kernel
theorem dX10_append_72 : decode cX10_append 72 = .ok (.ireturn, 1) := by decide +kernel
theorem dX10_truncate_0 : decode cX10_truncate 0 = .ok (.iload_n 1, 1) := by decide +kernel
theorem dX10_truncate_1 : decode cX10_truncate 1 = .ok (.ifCond .lt 14, 3) := by decide +kernel
theorem dX10_truncate_4 : decode cX10_truncate 4 = .ok (.iload_n 1, 1) := by decide +kernel
theorem dX10_truncate_5 : decode cX10_truncate 5 = .ok (.aload_n 0, 1) := by decide +kernel
theorem dX10_truncate_6 : decode cX10_truncate 6 = .ok (.getfield 62, 3) := by decide +kernel
theorem dX10_truncate_9 : decode cX10_truncate 9 = .ok (.getfield 58, 3) := by decide +kernel
theorem dX10_truncate_12 : decode cX10_truncate 12 = .ok (.if_icmp .le 13, 3) := by decide +kernel
theorem dX10_truncate_15 : decode cX10_truncate 15 = .ok (.new 79, 3) := by decide +kernel
theorem dX10_truncate_18 : decode cX10_truncate 18 = .ok (.dup, 1) := by decide +kernel
theorem dX10_truncate_19 : decode cX10_truncate 19 = .ok (.ldc 81, 2) := by decide +kernel
theorem dX10_truncate_21 : decode cX10_truncate 21 = .ok (.invokespecial 83, 3) := by decide +kernel
theorem dX10_truncate_24 : decode cX10_truncate 24 = .ok (.athrow, 1) := by decide +kernel
theorem dX10_truncate_25 : decode cX10_truncate 25 = .ok (.aload_n 0, 1) := by decide +kernel
theorem dX10_truncate_26 : decode cX10_truncate 26 = .ok (.getfield 62, 3) := by decide +kernel
theorem dX10_truncate_29 : decode cX10_truncate 29 = .ok (.iload_n 1, 1) := by decide +kernel
theorem dX10_truncate_30 : decode cX10_truncate 30 = .ok (.putfield 58, 3) := by decide +kernel
theorem dX10_truncate_33 : decode cX10_truncate 33 = .ok (.iload_n 1, 1) := by decide +kernel
theorem dX10_truncate_34 : decode cX10_truncate 34 = .ok (.ireturn, 1) := by decide +kernel
theorem dX10_load_0 : decode cX10_load 0 = .ok (.aload_n 0, 1) := by decide +kernel
theorem dX10_load_1 : decode cX10_load 1 = .ok (.getfield 62, 3) := by decide +kernel
theorem dX10_load_4 : decode cX10_load 4 = .ok (.aload_n 0, 1) := by decide +kernel
theorem dX10_load_5 : decode cX10_load 5 = .ok (.getfield 10, 3) := by decide +kernel
theorem dX10_load_8 : decode cX10_load 8 = .ok (.invokestatic 54, 3) := by decide +kernel
theorem dX10_load_11 : decode cX10_load 11 = .ok (.istore_n 1, 1) := by decide +kernel
theorem dX10_load_12 : decode cX10_load 12 = .ok (.aload_n 0, 1) := by decide +kernel
theorem dX10_load_13 : decode cX10_load 13 = .ok (.getfield 62, 3) := by decide +kernel
theorem dX10_load_16 : decode cX10_load 16 = .ok (.iconst 0, 1) := by decide +kernel
theorem dX10_load_17 : decode cX10_load 17 = .ok (.putfield 58, 3) := by decide +kernel
theorem dX10_load_20 : decode cX10_load 20 = .ok (.iload_n 1, 1) := by decide +kernel
theorem dX10_load_21 : decode cX10_load 21 = .ok (.ifCond .ne 13, 3) := by decide +kernel
theorem dX10_load_24 : decode cX10_load 24 = .ok (.new 79, 3) := by decide +kernel
theorem dX10_load_27 : decode cX10_load 27 = .ok (.dup, 1) := by decide +kernel
theorem dX10_load_28 : decode cX10_load 28 = .ok (.ldc 84, 2) := by decide +kernel
theorem dX10_load_30 : decode cX10_load 30 = .ok (.invokespecial 83, 3) := by decide +kernel
theorem dX10_load_33 : decode cX10_load 33 = .ok (.athrow, 1) := by decide +kernel
theorem dX10_load_34 : decode cX10_load 34 = .ok (.aload_n 0, 1) := by decide +kernel
theorem dX10_load_35 : decode cX10_load 35 = .ok (.getfield 66, 3) := by decide +kernel
theorem dX10_load_38 : decode cX10_load 38 = .ok (.aload_n 0, 1) := by decide +kernel
theorem dX10_load_39 : decode cX10_load 39 = .ok (.getfield 10, 3) := by decide +kernel
theorem dX10_load_42 : decode cX10_load 42 = .ok (.invokevirtual 86, 3) := by decide +kernel
theorem dX10_load_45 : decode cX10_load 45 = .ok (.aload_n 0, 1) := by decide +kernel
theorem dX10_load_46 : decode cX10_load 46 = .ok (.getfield 33, 3) := by decide +kernel
theorem dX10_load_49 : decode cX10_load 49 = .ok (.iconst 0, 1) := by decide +kernel
theorem dX10_load_50 : decode cX10_load 50 = .ok (.putfield 90, 3) := by decide +kernel
theorem dX10_load_53 : decode cX10_load 53 = .ok (.iconst 0, 1) := by decide +kernel
theorem dX10_load_54 : decode cX10_load 54 = .ok (.istore_n 2, 1) := by decide +kernel
theorem dX10_load_55 : decode cX10_load 55 = .ok (.iload_n 2, 1) := by decide +kernel
theorem dX10_load_56 : decode cX10_load 56 = .ok (.iconst 2, 1) := by decide +kernel
theorem dX10_load_57 : decode cX10_load 57 = .ok (.if_icmp .ge 16, 3) := by decide +kernel
theorem dX10_load_60 : decode cX10_load 60 = .ok (.aload_n 0, 1) := by decide +kernel
theorem dX10_load_61 : decode cX10_load 61 = .ok (.getfield 41, 3) := by decide +kernel
theorem dX10_load_64 : decode cX10_load 64 = .ok (.iload_n 2, 1) := by decide +kernel
theorem dX10_load_65 : decode cX10_load 65 = .ok (.iconst 0, 1) := by decide +kernel
theorem dX10_load_66 : decode cX10_load 66 = .ok (.bastore, 1) := by decide +kernel
theorem dX10_load_67 : decode cX10_load 67 = .ok (.iinc 2 1, 3) := by decide +kernel
theorem dX10_load_70 : decode cX10_load 70 = .ok (.goto (-15), 3) := by decide +kernel
theorem dX10_load_73 : decode cX10_load 73 = .ok (.aload_n 0, 1) := by decide +kernel
theorem dX10_load_74 : decode cX10_load 74 = .ok (.getfield 66, 3) := by decide +kernel
theorem dX10_load_77 : decode cX10_load 77 = .ok (.getfield 93, 3) := by decide +kernel
theorem dX10_load_80 : decode cX10_load 80 = .ok (.ireturn, 1) := by decide +kernel
theorem dX10_errorCode_0 : decode cX10_errorCode 0 = .ok (.aload_n 0, 1) := by decide +kernel
theorem dX10_errorCode_1 : decode cX10_errorCode 1 = .ok (.getfield 62, 3) := by decide +kernel
theorem dX10_errorCode_4 : decode cX10_errorCode 4 = .ok (.getfield 96, 3) := by decide +kernel
theorem dX10_errorCode_7 : decode cX10_errorCode 7 = .ok (.ireturn, 1) := by decide +kernel
theorem dX10_errorPosition_0 : decode cX10_errorPosition 0 = .ok (.aload_n 0, 1) := by decide +kernel
theorem dX10_errorPosition_1 : decode cX10_errorPosition 1 = .ok (.getfield 62, 3) := by decide +kernel
theorem dX10_errorPosition_4 : decode cX10_errorPosition 4 = .ok (.getfield 99, 3) := by decide +kernel
theorem dX10_errorPosition_7 : decode cX10_errorPosition 7 = .ok (.ireturn, 1) := by decide +kernel
theorem dX10_clerkCount_0 : decode cX10_clerkCount 0 = .ok (.aload_n 0, 1) := by decide +kernel
theorem dX10_clerkCount_1 : decode cX10_clerkCount 1 = .ok (.getfield 66, 3) := by decide +kernel
theorem dX10_clerkCount_4 : decode cX10_clerkCount 4 = .ok (.getfield 102, 3) := by decide +kernel
theorem dX10_clerkCount_7 : decode cX10_clerkCount 7 = .ok (.getfield 106, 3) := by decide +kernel
theorem dX10_clerkCount_10 : decode cX10_clerkCount 10 = .ok (.ireturn, 1) := by decide +kernel
theorem dX10_letterCount_0 : decode cX10_letterCount 0 = .ok (.aload_n 0, 1) := by decide +kernel
theorem dX10_letterCount_1 : decode cX10_letterCount 1 = .ok (.getfield 66, 3) := by decide +kernel
theorem dX10_letterCount_4 : decode cX10_letterCount 4 = .ok (.getfield 93, 3) := by decide +kernel
theorem dX10_letterCount_7 : decode cX10_letterCount 7 = .ok (.ireturn, 1) := by decide +kernel
theorem dX10_minute_0 : decode cX10_minute 0 = .ok (.aload_n 0, 1) := by decide +kernel
theorem dX10_minute_1 : decode cX10_minute 1 = .ok (.getfield 66, 3) := by decide +kernel
theorem dX10_minute_4 : decode cX10_minute 4 = .ok (.getfield 109, 3) := by decide +kernel
theorem dX10_minute_7 : decode cX10_minute 7 = .ok (.ireturn, 1) := by decide +kernel
theorem dX10_policy_0 : decode cX10_policy 0 = .ok (.aload_n 0, 1) := by decide +kernel
theorem dX10_policy_1 : decode cX10_policy 1 = .ok (.getfield 66, 3) := by decide +kernel
theorem dX10_policy_4 : decode cX10_policy 4 = .ok (.getfield 112, 3) := by decide +kernel
theorem dX10_policy_7 : decode cX10_policy 7 = .ok (.ireturn, 1) := by decide +kernel
theorem dX10_holder_0 : decode cX10_holder 0 = .ok (.aload_n 0, 1) := by decide +kernel
theorem dX10_holder_1 : decode cX10_holder 1 = .ok (.getfield 66, 3) := by decide +kernel
theorem dX10_holder_4 : decode cX10_holder 4 = .ok (.getfield 115, 3) := by decide +kernel
theorem dX10_holder_7 : decode cX10_holder 7 = .ok (.ireturn, 1) := by decide +kernel
theorem dX10_currentLetter_0 : decode cX10_currentLetter 0 = .ok (.aload_n 0, 1) := by decide +kernel
theorem dX10_currentLetter_1 : decode cX10_currentLetter 1 = .ok (.getfield 66, 3) := by decide +kernel
theorem dX10_currentLetter_4 : decode cX10_currentLetter 4 = .ok (.getfield 118, 3) := by decide +kernel
theorem dX10_currentLetter_7 : decode cX10_currentLetter 7 = .ok (.ireturn, 1) := by decide +kernel
theorem dX10_lastLetter_0 : decode cX10_lastLetter 0 = .ok (.aload_n 0, 1) := by decide +kernel
theorem dX10_lastLetter_1 : decode cX10_lastLetter 1 = .ok (.getfield 66, 3) := by decide +kernel
theorem dX10_lastLetter_4 : decode cX10_lastLetter 4 = .ok (.getfield 121, 3) := by decide +kernel
theorem dX10_lastLetter_7 : decode cX10_lastLetter 7 = .ok (.ireturn, 1) := by decide +kernel
theorem dX10_runLength_0 : decode cX10_runLength 0 = .ok (.aload_n 0, 1) := by decide +kernel
theorem dX10_runLength_1 : decode cX10_runLength 1 = .ok (.getfield 66, 3) := by decide +kernel
theorem dX10_runLength_4 : decode cX10_runLength 4 = .ok (.getfield 124, 3) := by decide +kernel
theorem dX10_runLength_7 : decode cX10_runLength 7 = .ok (.ireturn, 1) := by decide +kernel
theorem dX10_ink_0 : decode cX10_ink 0 = .ok (.aload_n 0, 1) := by decide +kernel
theorem dX10_ink_1 : decode cX10_ink 1 = .ok (.getfield 66, 3) := by decide +kernel
theorem dX10_ink_4 : decode cX10_ink 4 = .ok (.getfield 127, 3) := by decide +kernel
theorem dX10_ink_7 : decode cX10_ink 7 = .ok (.ireturn, 1) := by decide +kernel
theorem dX10_refillLeft_0 : decode cX10_refillLeft 0 = .ok (.aload_n 0, 1) := by decide +kernel
theorem dX10_refillLeft_1 : decode cX10_refillLeft 1 = .ok (.getfield 66, 3) := by decide +kernel
theorem dX10_refillLeft_4 : decode cX10_refillLeft 4 = .ok (.getfield 130, 3) := by decide +kernel
theorem dX10_refillLeft_7 : decode cX10_refillLeft 7 = .ok (.ireturn, 1) := by decide +kernel
theorem dX10_handOverLeft_0 : decode cX10_handOverLeft 0 = .ok (.aload_n 0, 1) := by decide +kernel
theorem dX10_handOverLeft_1 : decode cX10_handOverLeft 1 = .ok (.getfield 66, 3) := by decide +kernel
theorem dX10_handOverLeft_4 : decode cX10_handOverLeft 4 = .ok (.getfield 133, 3) := by decide +kernel
theorem dX10_handOverLeft_7 : decode cX10_handOverLeft 7 = .ok (.ireturn, 1) := by decide +kernel
theorem dX10_nameByte_0 : decode cX10_nameByte 0 = .ok (.aload_n 0, 1) := by decide +kernel
theorem dX10_nameByte_1 : decode cX10_nameByte 1 = .ok (.iload_n 1, 1) := by decide +kernel
theorem dX10_nameByte_2 : decode cX10_nameByte 2 = .ok (.invokevirtual 136, 3) := by decide +kernel
theorem dX10_nameByte_5 : decode cX10_nameByte 5 = .ok (.iload_n 2, 1) := by decide +kernel
theorem dX10_nameByte_6 : decode cX10_nameByte 6 = .ok (.ifCond .lt 19, 3) := by decide +kernel
theorem dX10_nameByte_9 : decode cX10_nameByte 9 = .ok (.iload_n 2, 1) := by decide +kernel
theorem dX10_nameByte_10 : decode cX10_nameByte 10 = .ok (.aload_n 0, 1) := by decide +kernel
theorem dX10_nameByte_11 : decode cX10_nameByte 11 = .ok (.getfield 66, 3) := by decide +kernel
theorem dX10_nameByte_14 : decode cX10_nameByte 14 = .ok (.getfield 102, 3) := by decide +kernel
theorem dX10_nameByte_17 : decode cX10_nameByte 17 = .ok (.getfield 139, 3) := by decide +kernel
theorem dX10_nameByte_20 : decode cX10_nameByte 20 = .ok (.iload_n 1, 1) := by decide +kernel
theorem dX10_nameByte_21 : decode cX10_nameByte 21 = .ok (.iaload, 1) := by decide +kernel
theorem dX10_nameByte_22 : decode cX10_nameByte 22 = .ok (.if_icmp .lt 13, 3) := by decide +kernel
theorem dX10_nameByte_25 : decode cX10_nameByte 25 = .ok (.new 143, 3) := by decide +kernel
theorem dX10_nameByte_28 : decode cX10_nameByte 28 = .ok (.dup, 1) := by decide +kernel
theorem dX10_nameByte_29 : decode cX10_nameByte 29 = .ok (.ldc 145, 2) := by decide +kernel
theorem dX10_nameByte_31 : decode cX10_nameByte 31 = .ok (.invokespecial 147, 3) := by decide +kernel
theorem dX10_nameByte_34 : decode cX10_nameByte 34 = .ok (.athrow, 1) := by decide +kernel
theorem dX10_nameByte_35 : decode cX10_nameByte 35 = .ok (.aload_n 0, 1) := by decide +kernel
theorem dX10_nameByte_36 : decode cX10_nameByte 36 = .ok (.getfield 66, 3) := by decide +kernel
theorem dX10_nameByte_39 : decode cX10_nameByte 39 = .ok (.getfield 102, 3) := by decide +kernel
theorem dX10_nameByte_42 : decode cX10_nameByte 42 = .ok (.getfield 148, 3) := by decide +kernel
theorem dX10_nameByte_45 : decode cX10_nameByte 45 = .ok (.iload_n 1, 1) := by decide +kernel
theorem dX10_nameByte_46 : decode cX10_nameByte 46 = .ok (.aaload, 1) := by decide +kernel
theorem dX10_nameByte_47 : decode cX10_nameByte 47 = .ok (.iload_n 2, 1) := by decide +kernel
theorem dX10_nameByte_48 : decode cX10_nameByte 48 = .ok (.baload, 1) := by decide +kernel
theorem dX10_nameByte_49 : decode cX10_nameByte 49 = .ok (.ireturn, 1) := by decide +kernel
theorem dX10_findClerk_0 : decode cX10_findClerk 0 = .ok (.aload_n 0, 1) := by decide +kernel
theorem dX10_findClerk_1 : decode cX10_findClerk 1 = .ok (.getfield 66, 3) := by decide +kernel
theorem dX10_findClerk_4 : decode cX10_findClerk 4 = .ok (.getfield 102, 3) := by decide +kernel
theorem dX10_findClerk_7 : decode cX10_findClerk 7 = .ok (.aload_n 0, 1) := by decide +kernel
theorem dX10_findClerk_8 : decode cX10_findClerk 8 = .ok (.getfield 62, 3) := by decide +kernel
theorem dX10_findClerk_11 : decode cX10_findClerk 11 = .ok (.getfield 152, 3) := by decide +kernel
theorem dX10_findClerk_14 : decode cX10_findClerk 14 = .ok (.iconst 0, 1) := by decide +kernel
theorem dX10_findClerk_15 : decode cX10_findClerk 15 = .ok (.aload_n 0, 1) := by decide +kernel
theorem dX10_findClerk_16 : decode cX10_findClerk 16 = .ok (.getfield 62, 3) := by decide +kernel
theorem dX10_findClerk_19 : decode cX10_findClerk 19 = .ok (.getfield 58, 3) := by decide +kernel
theorem dX10_findClerk_22 : decode cX10_findClerk 22 = .ok (.invokevirtual 156, 3) := by decide +kernel
theorem dX10_findClerk_25 : decode cX10_findClerk 25 = .ok (.istore_n 1, 1) := by decide +kernel
theorem dX10_findClerk_26 : decode cX10_findClerk 26 = .ok (.iload_n 1, 1) := by decide +kernel
theorem dX10_findClerk_27 : decode cX10_findClerk 27 = .ok (.iconst (-1), 1) := by decide +kernel
theorem dX10_findClerk_28 : decode cX10_findClerk 28 = .ok (.if_icmp .ne 13, 3) := by decide +kernel
theorem dX10_findClerk_31 : decode cX10_findClerk 31 = .ok (.new 160, 3) := by decide +kernel
theorem dX10_findClerk_34 : decode cX10_findClerk 34 = .ok (.dup, 1) := by decide +kernel
theorem dX10_findClerk_35 : decode cX10_findClerk 35 = .ok (.ldc 162, 2) := by decide +kernel
theorem dX10_findClerk_37 : decode cX10_findClerk 37 = .ok (.invokespecial 164, 3) := by decide +kernel
theorem dX10_findClerk_40 : decode cX10_findClerk 40 = .ok (.athrow, 1) := by decide +kernel
theorem dX10_findClerk_41 : decode cX10_findClerk 41 = .ok (.iload_n 1, 1) := by decide +kernel
theorem dX10_findClerk_42 : decode cX10_findClerk 42 = .ok (.ireturn, 1) := by decide +kernel
theorem dX10_clerkOf_0 : decode cX10_clerkOf 0 = .ok (.aload_n 0, 1) := by decide +kernel
theorem dX10_clerkOf_1 : decode cX10_clerkOf 1 = .ok (.iload_n 1, 1) := by decide +kernel
theorem dX10_clerkOf_2 : decode cX10_clerkOf 2 = .ok (.invokevirtual 165, 3) := by decide +kernel
theorem dX10_clerkOf_5 : decode cX10_clerkOf 5 = .ok (.aload_n 0, 1) := by decide +kernel
theorem dX10_clerkOf_6 : decode cX10_clerkOf 6 = .ok (.getfield 66, 3) := by decide +kernel
theorem dX10_clerkOf_9 : decode cX10_clerkOf 9 = .ok (.getfield 168, 3) := by decide +kernel
theorem dX10_clerkOf_12 : decode cX10_clerkOf 12 = .ok (.iload_n 1, 1) := by decide +kernel
theorem dX10_clerkOf_13 : decode cX10_clerkOf 13 = .ok (.aaload, 1) := by decide +kernel
theorem dX10_clerkOf_14 : decode cX10_clerkOf 14 = .ok (.getfield 172, 3) := by decide +kernel
theorem dX10_clerkOf_17 : decode cX10_clerkOf 17 = .ok (.ireturn, 1) := by decide +kernel
theorem dX10_length_0 : decode cX10_length 0 = .ok (.aload_n 0, 1) := by decide +kernel
theorem dX10_length_1 : decode cX10_length 1 = .ok (.iload_n 1, 1) := by decide +kernel
theorem dX10_length_2 : decode cX10_length 2 = .ok (.invokevirtual 165, 3) := by decide +kernel
theorem dX10_length_5 : decode cX10_length 5 = .ok (.aload_n 0, 1) := by decide +kernel
theorem dX10_length_6 : decode cX10_length 6 = .ok (.getfield 66, 3) := by decide +kernel
theorem dX10_length_9 : decode cX10_length 9 = .ok (.getfield 168, 3) := by decide +kernel
theorem dX10_length_12 : decode cX10_length 12 = .ok (.iload_n 1, 1) := by decide +kernel
theorem dX10_length_13 : decode cX10_length 13 = .ok (.aaload, 1) := by decide +kernel
theorem dX10_length_14 : decode cX10_length 14 = .ok (.getfield 177, 3) := by decide +kernel
theorem dX10_length_17 : decode cX10_length 17 = .ok (.ireturn, 1) := by decide +kernel
theorem dX10_arrival_0 : decode cX10_arrival 0 = .ok (.aload_n 0, 1) := by decide +kernel
theorem dX10_arrival_1 : decode cX10_arrival 1 = .ok (.iload_n 1, 1) := by decide +kernel
theorem dX10_arrival_2 : decode cX10_arrival 2 = .ok (.invokevirtual 165, 3) := by decide +kernel
theorem dX10_arrival_5 : decode cX10_arrival 5 = .ok (.aload_n 0, 1) := by decide +kernel
theorem dX10_arrival_6 : decode cX10_arrival 6 = .ok (.getfield 66, 3) := by decide +kernel
theorem dX10_arrival_9 : decode cX10_arrival 9 = .ok (.getfield 168, 3) := by decide +kernel
theorem dX10_arrival_12 : decode cX10_arrival 12 = .ok (.iload_n 1, 1) := by decide +kernel
theorem dX10_arrival_13 : decode cX10_arrival 13 = .ok (.aaload, 1) := by decide +kernel
theorem dX10_arrival_14 : decode cX10_arrival 14 = .ok (.getfield 178, 3) := by decide +kernel
theorem dX10_arrival_17 : decode cX10_arrival 17 = .ok (.ireturn, 1) := by decide +kernel
theorem dX10_deadline_0 : decode cX10_deadline 0 = .ok (.aload_n 0, 1) := by decide +kernel
theorem dX10_deadline_1 : decode cX10_deadline 1 = .ok (.iload_n 1, 1) := by decide +kernel
theorem dX10_deadline_2 : decode cX10_deadline 2 = .ok (.invokevirtual 165, 3) := by decide +kernel
theorem dX10_deadline_5 : decode cX10_deadline 5 = .ok (.aload_n 0, 1) := by decide +kernel
theorem dX10_deadline_6 : decode cX10_deadline 6 = .ok (.getfield 66, 3) := by decide +kernel
theorem dX10_deadline_9 : decode cX10_deadline 9 = .ok (.getfield 168, 3) := by decide +kernel
theorem dX10_deadline_12 : decode cX10_deadline 12 = .ok (.iload_n 1, 1) := by decide +kernel
theorem dX10_deadline_13 : decode cX10_deadline 13 = .ok (.aaload, 1) := by decide +kernel
theorem dX10_deadline_14 : decode cX10_deadline 14 = .ok (.getfield 181, 3) := by decide +kernel
theorem dX10_deadline_17 : decode cX10_deadline 17 = .ok (.ireturn, 1) := by decide +kernel
theorem dX10_priority_0 : decode cX10_priority 0 = .ok (.aload_n 0, 1) := by decide +kernel
theorem dX10_priority_1 : decode cX10_priority 1 = .ok (.iload_n 1, 1) := by decide +kernel
theorem dX10_priority_2 : decode cX10_priority 2 = .ok (.invokevirtual 165, 3) := by decide +kernel
theorem dX10_priority_5 : decode cX10_priority 5 = .ok (.aload_n 0, 1) := by decide +kernel
theorem dX10_priority_6 : decode cX10_priority 6 = .ok (.getfield 66, 3) := by decide +kernel
theorem dX10_priority_9 : decode cX10_priority 9 = .ok (.getfield 168, 3) := by decide +kernel
theorem dX10_priority_12 : decode cX10_priority 12 = .ok (.iload_n 1, 1) := by decide +kernel
theorem dX10_priority_13 : decode cX10_priority 13 = .ok (.aaload, 1) := by decide +kernel
theorem dX10_priority_14 : decode cX10_priority 14 = .ok (.getfield 184, 3) := by decide +kernel
theorem dX10_priority_17 : decode cX10_priority 17 = .ok (.ireturn, 1) := by decide +kernel
theorem dX10_remaining_0 : decode cX10_remaining 0 = .ok (.aload_n 0, 1) := by decide +kernel
theorem dX10_remaining_1 : decode cX10_remaining 1 = .ok (.iload_n 1, 1) := by decide +kernel
theorem dX10_remaining_2 : decode cX10_remaining 2 = .ok (.invokevirtual 165, 3) := by decide +kernel
theorem dX10_remaining_5 : decode cX10_remaining 5 = .ok (.aload_n 0, 1) := by decide +kernel
theorem dX10_remaining_6 : decode cX10_remaining 6 = .ok (.getfield 66, 3) := by decide +kernel
theorem dX10_remaining_9 : decode cX10_remaining 9 = .ok (.getfield 168, 3) := by decide +kernel
theorem dX10_remaining_12 : decode cX10_remaining 12 = .ok (.iload_n 1, 1) := by decide +kernel
theorem dX10_remaining_13 : decode cX10_remaining 13 = .ok (.aaload, 1) := by decide +kernel
theorem dX10_remaining_14 : decode cX10_remaining 14 = .ok (.getfield 187, 3) := by decide +kernel
theorem dX10_remaining_17 : decode cX10_remaining 17 = .ok (.ireturn, 1) := by decide +kernel
theorem dX10_finishMinute_0 : decode cX10_finishMinute 0 = .ok (.aload_n 0, 1) := by decide +kernel
theorem dX10_finishMinute_1 : decode cX10_finishMinute 1 = .ok (.iload_n 1, 1) := by decide +kernel
theorem dX10_finishMinute_2 : decode cX10_finishMinute 2 = .ok (.invokevirtual 165, 3) := by decide +kernel
theorem dX10_finishMinute_5 : decode cX10_finishMinute 5 = .ok (.aload_n 0, 1) := by decide +kernel
theorem dX10_finishMinute_6 : decode cX10_finishMinute 6 = .ok (.getfield 66, 3) := by decide +kernel
theorem dX10_finishMinute_9 : decode cX10_finishMinute 9 = .ok (.getfield 168, 3) := by decide +kernel
theorem dX10_finishMinute_12 : decode cX10_finishMinute 12 = .ok (.iload_n 1, 1) := by decide +kernel
theorem dX10_finishMinute_13 : decode cX10_finishMinute 13 = .ok (.aaload, 1) := by decide +kernel
theorem dX10_finishMinute_14 : decode cX10_finishMinute 14 = .ok (.getfield 190, 3) := by decide +kernel
theorem dX10_finishMinute_17 : decode cX10_finishMinute 17 = .ok (.ireturn, 1) := by decide +kernel
theorem dX10_waitingTime_0 : decode cX10_waitingTime 0 = .ok (.aload_n 0, 1) := by decide +kernel
theorem dX10_waitingTime_1 : decode cX10_waitingTime 1 = .ok (.iload_n 1, 1) := by decide +kernel
theorem dX10_waitingTime_2 : decode cX10_waitingTime 2 = .ok (.invokevirtual 165, 3) := by decide +kernel
theorem dX10_waitingTime_5 : decode cX10_waitingTime 5 = .ok (.aload_n 0, 1) := by decide +kernel
theorem dX10_waitingTime_6 : decode cX10_waitingTime 6 = .ok (.getfield 66, 3) := by decide +kernel
theorem dX10_waitingTime_9 : decode cX10_waitingTime 9 = .ok (.getfield 168, 3) := by decide +kernel
theorem dX10_waitingTime_12 : decode cX10_waitingTime 12 = .ok (.iload_n 1, 1) := by decide +kernel
theorem dX10_waitingTime_13 : decode cX10_waitingTime 13 = .ok (.aaload, 1) := by decide +kernel
theorem dX10_waitingTime_14 : decode cX10_waitingTime 14 = .ok (.aload_n 0, 1) := by decide +kernel
theorem dX10_waitingTime_15 : decode cX10_waitingTime 15 = .ok (.getfield 66, 3) := by decide +kernel
theorem dX10_waitingTime_18 : decode cX10_waitingTime 18 = .ok (.getfield 109, 3) := by decide +kernel
theorem dX10_waitingTime_21 : decode cX10_waitingTime 21 = .ok (.invokevirtual 193, 3) := by decide +kernel
theorem dX10_waitingTime_24 : decode cX10_waitingTime 24 = .ok (.ireturn, 1) := by decide +kernel
theorem dX10_effectivePriority_0 : decode cX10_effectivePriority 0 = .ok (.aload_n 0, 1) := by decide +kernel
theorem dX10_effectivePriority_1 : decode cX10_effectivePriority 1 = .ok (.iload_n 1, 1) := by decide +kernel
theorem dX10_effectivePriority_2 : decode cX10_effectivePriority 2 = .ok (.invokevirtual 165, 3) := by decide +kernel
theorem dX10_effectivePriority_5 : decode cX10_effectivePriority 5 = .ok (.aload_n 0, 1) := by decide +kernel
theorem dX10_effectivePriority_6 : decode cX10_effectivePriority 6 = .ok (.getfield 66, 3) := by decide +kernel
theorem dX10_effectivePriority_9 : decode cX10_effectivePriority 9 = .ok (.getfield 197, 3) := by decide +kernel
theorem dX10_effectivePriority_12 : decode cX10_effectivePriority 12 = .ok (.aload_n 0, 1) := by decide +kernel
theorem dX10_effectivePriority_13 : decode cX10_effectivePriority 13 = .ok (.getfield 66, 3) := by decide +kernel
theorem dX10_effectivePriority_16 : decode cX10_effectivePriority 16 = .ok (.getfield 168, 3) := by decide +kernel
theorem dX10_effectivePriority_19 : decode cX10_effectivePriority 19 = .ok (.iload_n 1, 1) := by decide +kernel
theorem dX10_effectivePriority_20 : decode cX10_effectivePriority 20 = .ok (.aaload, 1) := by decide +kernel
theorem dX10_effectivePriority_21 : decode cX10_effectivePriority 21 = .ok (.getfield 184, 3) := by decide +kernel
theorem dX10_effectivePriority_24 : decode cX10_effectivePriority 24 = .ok (.aload_n 0, 1) := by decide +kernel
theorem dX10_effectivePriority_25 : decode cX10_effectivePriority 25 = .ok (.getfield 66, 3) := by decide +kernel
theorem dX10_effectivePriority_28 : decode cX10_effectivePriority 28 = .ok (.getfield 168, 3) := by decide +kernel
theorem dX10_effectivePriority_31 : decode cX10_effectivePriority 31 = .ok (.iload_n 1, 1) := by decide +kernel
theorem dX10_effectivePriority_32 : decode cX10_effectivePriority 32 = .ok (.aaload, 1) := by decide +kernel
theorem dX10_effectivePriority_33 : decode cX10_effectivePriority 33 = .ok (.aload_n 0, 1) := by decide +kernel
theorem dX10_effectivePriority_34 : decode cX10_effectivePriority 34 = .ok (.getfield 66, 3) := by decide +kernel
theorem dX10_effectivePriority_37 : decode cX10_effectivePriority 37 = .ok (.getfield 109, 3) := by decide +kernel
theorem dX10_effectivePriority_40 : decode cX10_effectivePriority 40 = .ok (.invokevirtual 193, 3) := by decide +kernel
theorem dX10_effectivePriority_43 : decode cX10_effectivePriority 43 = .ok (.invokevirtual 201, 3) := by decide +kernel
theorem dX10_effectivePriority_46 : decode cX10_effectivePriority 46 = .ok (.ireturn, 1) := by decide +kernel
theorem dX10_isReady_0 : decode cX10_isReady 0 = .ok (.aload_n 0, 1) := by decide +kernel
theorem dX10_isReady_1 : decode cX10_isReady 1 = .ok (.iload_n 1, 1) := by decide +kernel
theorem dX10_isReady_2 : decode cX10_isReady 2 = .ok (.invokevirtual 165, 3) := by decide +kernel
theorem dX10_isReady_5 : decode cX10_isReady 5 = .ok (.aload_n 0, 1) := by decide +kernel
theorem dX10_isReady_6 : decode cX10_isReady 6 = .ok (.getfield 66, 3) := by decide +kernel
theorem dX10_isReady_9 : decode cX10_isReady 9 = .ok (.getfield 168, 3) := by decide +kernel
theorem dX10_isReady_12 : decode cX10_isReady 12 = .ok (.iload_n 1, 1) := by decide +kernel
theorem dX10_isReady_13 : decode cX10_isReady 13 = .ok (.aaload, 1) := by decide +kernel
theorem dX10_isReady_14 : decode cX10_isReady 14 = .ok (.aload_n 0, 1) := by decide +kernel
theorem dX10_isReady_15 : decode cX10_isReady 15 = .ok (.getfield 66, 3) := by decide +kernel
theorem dX10_isReady_18 : decode cX10_isReady 18 = .ok (.getfield 109, 3) := by decide +kernel
theorem dX10_isReady_21 : decode cX10_isReady 21 = .ok (.invokevirtual 207, 3) := by decide +kernel
theorem dX10_isReady_24 : decode cX10_isReady 24 = .ok (.ireturn, 1) := by decide +kernel
theorem dX10_readyCount_0 : decode cX10_readyCount 0 = .ok (.aload_n 0, 1) := by decide +kernel
theorem dX10_readyCount_1 : decode cX10_readyCount 1 = .ok (.getfield 66, 3) := by decide +kernel
theorem dX10_readyCount_4 : decode cX10_readyCount 4 = .ok (.invokevirtual 211, 3) := by decide +kernel
theorem dX10_readyCount_7 : decode cX10_readyCount 7 = .ok (.ireturn, 1) := by decide +kernel
theorem dX10_selectedLetter_0 : decode cX10_selectedLetter 0 = .ok (.aload_n 0, 1) := by decide +kernel
theorem dX10_selectedLetter_1 : decode cX10_selectedLetter 1 = .ok (.getfield 66, 3) := by decide +kernel
theorem dX10_selectedLetter_4 : decode cX10_selectedLetter 4 = .ok (.aload_n 0, 1) := by decide +kernel
theorem dX10_selectedLetter_5 : decode cX10_selectedLetter 5 = .ok (.getfield 66, 3) := by decide +kernel
theorem dX10_selectedLetter_8 : decode cX10_selectedLetter 8 = .ok (.getfield 112, 3) := by decide +kernel
theorem dX10_selectedLetter_11 : decode cX10_selectedLetter 11 = .ok (.invokevirtual 215, 3) := by decide +kernel
theorem dX10_selectedLetter_14 : decode cX10_selectedLetter 14 = .ok (.ireturn, 1) := by decide +kernel
theorem dX10_selectedBy_0 : decode cX10_selectedBy 0 = .ok (.iload_n 1, 1) := by decide +kernel
theorem dX10_selectedBy_1 : decode cX10_selectedBy 1 = .ok (.invokestatic 218, 3) := by decide +kernel
theorem dX10_selectedBy_4 : decode cX10_selectedBy 4 = .ok (.invokestatic 222, 3) := by decide +kernel
theorem dX10_selectedBy_7 : decode cX10_selectedBy 7 = .ok (.aload_n 0, 1) := by decide +kernel
theorem dX10_selectedBy_8 : decode cX10_selectedBy 8 = .ok (.getfield 66, 3) := by decide +kernel
theorem dX10_selectedBy_11 : decode cX10_selectedBy 11 = .ok (.iload_n 1, 1) := by decide +kernel
theorem dX10_selectedBy_12 : decode cX10_selectedBy 12 = .ok (.invokevirtual 215, 3) := by decide +kernel
theorem dX10_selectedBy_15 : decode cX10_selectedBy 15 = .ok (.ireturn, 1) := by decide +kernel
theorem dX10_openLettersOf_0 : decode cX10_openLettersOf 0 = .ok (.aload_n 0, 1) := by decide +kernel
theorem dX10_openLettersOf_1 : decode cX10_openLettersOf 1 = .ok (.iload_n 1, 1) := by decide +kernel
theorem dX10_openLettersOf_2 : decode cX10_openLettersOf 2 = .ok (.invokevirtual 136, 3) := by decide +kernel
theorem dX10_openLettersOf_5 : decode cX10_openLettersOf 5 = .ok (.aload_n 0, 1) := by decide +kernel
theorem dX10_openLettersOf_6 : decode cX10_openLettersOf 6 = .ok (.getfield 66, 3) := by decide +kernel
theorem dX10_openLettersOf_9 : decode cX10_openLettersOf 9 = .ok (.iload_n 1, 1) := by decide +kernel
theorem dX10_openLettersOf_10 : decode cX10_openLettersOf 10 = .ok (.invokevirtual 226, 3) := by decide +kernel
theorem dX10_openLettersOf_13 : decode cX10_openLettersOf 13 = .ok (.ireturn, 1) := by decide +kernel
theorem dX10_workOf_0 : decode cX10_workOf 0 = .ok (.aload_n 0, 1) := by decide +kernel
theorem dX10_workOf_1 : decode cX10_workOf 1 = .ok (.iload_n 1, 1) := by decide +kernel
theorem dX10_workOf_2 : decode cX10_workOf 2 = .ok (.invokevirtual 136, 3) := by decide +kernel
theorem dX10_workOf_5 : decode cX10_workOf 5 = .ok (.aload_n 0, 1) := by decide +kernel
theorem dX10_workOf_6 : decode cX10_workOf 6 = .ok (.getfield 66, 3) := by decide +kernel
theorem dX10_workOf_9 : decode cX10_workOf 9 = .ok (.iload_n 1, 1) := by decide +kernel
theorem dX10_workOf_10 : decode cX10_workOf 10 = .ok (.invokevirtual 229, 3) := by decide +kernel
theorem dX10_workOf_13 : decode cX10_workOf 13 = .ok (.ireturn, 1) := by decide +kernel
theorem dX10_busiestClerk_0 : decode cX10_busiestClerk 0 = .ok (.iconst 0, 1) := by decide +kernel
theorem dX10_busiestClerk_1 : decode cX10_busiestClerk 1 = .ok (.istore_n 1, 1) := by decide +kernel
theorem dX10_busiestClerk_2 : decode cX10_busiestClerk 2 = .ok (.iconst 1, 1) := by decide +kernel
theorem dX10_busiestClerk_3 : decode cX10_busiestClerk 3 = .ok (.istore_n 2, 1) := by decide +kernel
theorem dX10_busiestClerk_4 : decode cX10_busiestClerk 4 = .ok (.iload_n 2, 1) := by decide +kernel
theorem dX10_busiestClerk_5 : decode cX10_busiestClerk 5 = .ok (.aload_n 0, 1) := by decide +kernel
theorem dX10_busiestClerk_6 : decode cX10_busiestClerk 6 = .ok (.getfield 66, 3) := by decide +kernel
theorem dX10_busiestClerk_9 : decode cX10_busiestClerk 9 = .ok (.getfield 102, 3) := by decide +kernel
theorem dX10_busiestClerk_12 : decode cX10_busiestClerk 12 = .ok (.getfield 106, 3) := by decide +kernel
theorem dX10_busiestClerk_15 : decode cX10_busiestClerk 15 = .ok (.if_icmp .ge 30, 3) := by decide +kernel
theorem dX10_busiestClerk_18 : decode cX10_busiestClerk 18 = .ok (.aload_n 0, 1) := by decide +kernel
theorem dX10_busiestClerk_19 : decode cX10_busiestClerk 19 = .ok (.getfield 66, 3) := by decide +kernel
theorem dX10_busiestClerk_22 : decode cX10_busiestClerk 22 = .ok (.iload_n 2, 1) := by decide +kernel
theorem dX10_busiestClerk_23 : decode cX10_busiestClerk 23 = .ok (.invokevirtual 229, 3) := by decide +kernel
theorem dX10_busiestClerk_26 : decode cX10_busiestClerk 26 = .ok (.aload_n 0, 1) := by decide +kernel
theorem dX10_busiestClerk_27 : decode cX10_busiestClerk 27 = .ok (.getfield 66, 3) := by decide +kernel
theorem dX10_busiestClerk_30 : decode cX10_busiestClerk 30 = .ok (.iload_n 1, 1) := by decide +kernel
theorem dX10_busiestClerk_31 : decode cX10_busiestClerk 31 = .ok (.invokevirtual 229, 3) := by decide +kernel
theorem dX10_busiestClerk_34 : decode cX10_busiestClerk 34 = .ok (.if_icmp .le 5, 3) := by decide +kernel
theorem dX10_busiestClerk_37 : decode cX10_busiestClerk 37 = .ok (.iload_n 2, 1) := by decide +kernel
theorem dX10_busiestClerk_38 : decode cX10_busiestClerk 38 = .ok (.istore_n 1, 1) := by decide +kernel
theorem dX10_busiestClerk_39 : decode cX10_busiestClerk 39 = .ok (.iinc 2 1, 3) := by decide +kernel
theorem dX10_busiestClerk_42 : decode cX10_busiestClerk 42 = .ok (.goto (-38), 3) := by decide +kernel
theorem dX10_busiestClerk_45 : decode cX10_busiestClerk 45 = .ok (.iload_n 1, 1) := by decide +kernel
theorem dX10_busiestClerk_46 : decode cX10_busiestClerk 46 = .ok (.ireturn, 1) := by decide +kernel
theorem dX10_finishedCount_0 : decode cX10_finishedCount 0 = .ok (.aload_n 0, 1) := by decide +kernel
theorem dX10_finishedCount_1 : decode cX10_finishedCount 1 = .ok (.getfield 66, 3) := by decide +kernel
theorem dX10_finishedCount_4 : decode cX10_finishedCount 4 = .ok (.getfield 93, 3) := by decide +kernel
theorem dX10_finishedCount_7 : decode cX10_finishedCount 7 = .ok (.aload_n 0, 1) := by decide +kernel
theorem dX10_finishedCount_8 : decode cX10_finishedCount 8 = .ok (.getfield 66, 3) := by decide +kernel
theorem dX10_finishedCount_11 : decode cX10_finishedCount 11 = .ok (.invokevirtual 232, 3) := by decide +kernel
theorem dX10_finishedCount_14 : decode cX10_finishedCount 14 = .ok (.isub, 1) := by decide +kernel
theorem dX10_finishedCount_15 : decode cX10_finishedCount 15 = .ok (.ireturn, 1) := by decide +kernel
theorem dX10_lateCount_0 : decode cX10_lateCount 0 = .ok (.aload_n 0, 1) := by decide +kernel
theorem dX10_lateCount_1 : decode cX10_lateCount 1 = .ok (.getfield 66, 3) := by decide +kernel
theorem dX10_lateCount_4 : decode cX10_lateCount 4 = .ok (.invokevirtual 235, 3) := by decide +kernel
theorem dX10_lateCount_7 : decode cX10_lateCount 7 = .ok (.ireturn, 1) := by decide +kernel
theorem dX10_greatestLateness_0 : decode cX10_greatestLateness 0 = .ok (.aload_n 0, 1) := by decide +kernel
theorem dX10_greatestLateness_1 : decode cX10_greatestLateness 1 = .ok (.getfield 66, 3) := by decide +kernel
theorem dX10_greatestLateness_4 : decode cX10_greatestLateness 4 = .ok (.invokevirtual 232, 3) := by decide +kernel
theorem dX10_greatestLateness_7 : decode cX10_greatestLateness 7 = .ok (.aload_n 0, 1) := by decide +kernel
theorem dX10_greatestLateness_8 : decode cX10_greatestLateness 8 = .ok (.getfield 66, 3) := by decide +kernel
theorem dX10_greatestLateness_11 : decode cX10_greatestLateness 11 = .ok (.getfield 93, 3) := by decide +kernel
theorem dX10_greatestLateness_14 : decode cX10_greatestLateness 14 = .ok (.if_icmp .ne 13, 3) := by decide +kernel
theorem dX10_greatestLateness_17 : decode cX10_greatestLateness 17 = .ok (.new 160, 3) := by decide +kernel
theorem dX10_greatestLateness_20 : decode cX10_greatestLateness 20 = .ok (.dup, 1) := by decide +kernel
theorem dX10_greatestLateness_21 : decode cX10_greatestLateness 21 = .ok (.ldc 238, 2) := by decide +kernel
theorem dX10_greatestLateness_23 : decode cX10_greatestLateness 23 = .ok (.invokespecial 164, 3) := by decide +kernel
theorem dX10_greatestLateness_26 : decode cX10_greatestLateness 26 = .ok (.athrow, 1) := by decide +kernel
theorem dX10_greatestLateness_27 : decode cX10_greatestLateness 27 = .ok (.aload_n 0, 1) := by decide +kernel
theorem dX10_greatestLateness_28 : decode cX10_greatestLateness 28 = .ok (.getfield 66, 3) := by decide +kernel
theorem dX10_greatestLateness_31 : decode cX10_greatestLateness 31 = .ok (.invokevirtual 240, 3) := by decide +kernel
theorem dX10_greatestLateness_34 : decode cX10_greatestLateness 34 = .ok (.ireturn, 1) := by decide +kernel
theorem dX10_blots_0 : decode cX10_blots 0 = .ok (.aload_n 0, 1) := by decide +kernel
theorem dX10_blots_1 : decode cX10_blots 1 = .ok (.getfield 66, 3) := by decide +kernel
theorem dX10_blots_4 : decode cX10_blots 4 = .ok (.getfield 243, 3) := by decide +kernel
theorem dX10_blots_7 : decode cX10_blots 7 = .ok (.ireturn, 1) := by decide +kernel
theorem dX10_handOvers_0 : decode cX10_handOvers 0 = .ok (.aload_n 0, 1) := by decide +kernel
theorem dX10_handOvers_1 : decode cX10_handOvers 1 = .ok (.getfield 66, 3) := by decide +kernel
theorem dX10_handOvers_4 : decode cX10_handOvers 4 = .ok (.getfield 246, 3) := by decide +kernel
theorem dX10_handOvers_7 : decode cX10_handOvers 7 = .ok (.ireturn, 1) := by decide +kernel
theorem dX10_writtenMinutes_0 : decode cX10_writtenMinutes 0 = .ok (.aload_n 0, 1) := by decide +kernel
theorem dX10_writtenMinutes_1 : decode cX10_writtenMinutes 1 = .ok (.getfield 66, 3) := by decide +kernel
theorem dX10_writtenMinutes_4 : decode cX10_writtenMinutes 4 = .ok (.getfield 249, 3) := by decide +kernel
theorem dX10_writtenMinutes_7 : decode cX10_writtenMinutes 7 = .ok (.ireturn, 1) := by decide +kernel
theorem dX10_idleMinutes_0 : decode cX10_idleMinutes 0 = .ok (.aload_n 0, 1) := by decide +kernel
theorem dX10_idleMinutes_1 : decode cX10_idleMinutes 1 = .ok (.getfield 66, 3) := by decide +kernel
theorem dX10_idleMinutes_4 : decode cX10_idleMinutes 4 = .ok (.getfield 252, 3) := by decide +kernel
theorem dX10_idleMinutes_7 : decode cX10_idleMinutes 7 = .ok (.ireturn, 1) := by decide +kernel
theorem dX10_utilization_0 : decode cX10_utilization 0 = .ok (.aload_n 0, 1) := by decide +kernel
theorem dX10_utilization_1 : decode cX10_utilization 1 = .ok (.getfield 66, 3) := by decide +kernel
theorem dX10_utilization_4 : decode cX10_utilization 4 = .ok (.getfield 109, 3) := by decide +kernel
theorem dX10_utilization_7 : decode cX10_utilization 7 = .ok (.ifCond .gt 5, 3) := by decide +kernel
theorem dX10_utilization_10 : decode cX10_utilization 10 = .ok (.fconst 0, 1) := by decide +kernel
theorem dX10_utilization_11 : decode cX10_utilization 11 = .ok (.freturn, 1) := by decide +kernel
theorem dX10_utilization_12 : decode cX10_utilization 12 = .ok (.aload_n 0, 1) := by decide +kernel
theorem dX10_utilization_13 : decode cX10_utilization 13 = .ok (.getfield 66, 3) := by decide +kernel
theorem dX10_utilization_16 : decode cX10_utilization 16 = .ok (.getfield 249, 3) := by decide +kernel
theorem dX10_utilization_19 : decode cX10_utilization 19 = .ok (.i2f, 1) := by decide +kernel
theorem dX10_utilization_20 : decode cX10_utilization 20 = .ok (.aload_n 0, 1) := by decide +kernel
theorem dX10_utilization_21 : decode cX10_utilization 21 = .ok (.getfield 66, 3) := by decide +kernel
theorem dX10_utilization_24 : decode cX10_utilization 24 = .ok (.getfield 109, 3) := by decide +kernel
theorem dX10_utilization_27 : decode cX10_utilization 27 = .ok (.i2f, 1) := by decide +kernel
theorem dX10_utilization_28 : decode cX10_utilization 28 = .ok (.fdiv, 1) := by decide +kernel
theorem dX10_utilization_29 : decode cX10_utilization 29 = .ok (.freturn, 1) := by decide +kernel
theorem dX10_meanTurnaround_0 : decode cX10_meanTurnaround 0 = .ok (.aload_n 0, 1) := by decide +kernel
theorem dX10_meanTurnaround_1 : decode cX10_meanTurnaround 1 = .ok (.getfield 66, 3) := by decide +kernel
theorem dX10_meanTurnaround_4 : decode cX10_meanTurnaround 4 = .ok (.getfield 93, 3) := by decide +kernel
theorem dX10_meanTurnaround_7 : decode cX10_meanTurnaround 7 = .ok (.aload_n 0, 1) := by decide +kernel
theorem dX10_meanTurnaround_8 : decode cX10_meanTurnaround 8 = .ok (.getfield 66, 3) := by decide +kernel
theorem dX10_meanTurnaround_11 : decode cX10_meanTurnaround 11 = .ok (.invokevirtual 232, 3) := by decide +kernel
theorem dX10_meanTurnaround_14 : decode cX10_meanTurnaround 14 = .ok (.isub, 1) := by decide +kernel
theorem dX10_meanTurnaround_15 : decode cX10_meanTurnaround 15 = .ok (.istore_n 1, 1) := by decide +kernel
theorem dX10_meanTurnaround_16 : decode cX10_meanTurnaround 16 = .ok (.iload_n 1, 1) := by decide +kernel
theorem dX10_meanTurnaround_17 : decode cX10_meanTurnaround 17 = .ok (.ifCond .gt 5, 3) := by decide +kernel
theorem dX10_meanTurnaround_20 : decode cX10_meanTurnaround 20 = .ok (.dconst 0, 1) := by decide +kernel
theorem dX10_meanTurnaround_21 : decode cX10_meanTurnaround 21 = .ok (.dreturn, 1) := by decide +kernel
theorem dX10_meanTurnaround_22 : decode cX10_meanTurnaround 22 = .ok (.aload_n 0, 1) := by decide +kernel
theorem dX10_meanTurnaround_23 : decode cX10_meanTurnaround 23 = .ok (.getfield 66, 3) := by decide +kernel
theorem dX10_meanTurnaround_26 : decode cX10_meanTurnaround 26 = .ok (.invokevirtual 255, 3) := by decide +kernel
theorem dX10_meanTurnaround_29 : decode cX10_meanTurnaround 29 = .ok (.i2d, 1) := by decide +kernel
theorem dX10_meanTurnaround_30 : decode cX10_meanTurnaround 30 = .ok (.iload_n 1, 1) := by decide +kernel
theorem dX10_meanTurnaround_31 : decode cX10_meanTurnaround 31 = .ok (.i2d, 1) := by decide +kernel
theorem dX10_meanTurnaround_32 : decode cX10_meanTurnaround 32 = .ok (.ddiv, 1) := by decide +kernel
theorem dX10_meanTurnaround_33 : decode cX10_meanTurnaround 33 = .ok (.dreturn, 1) := by decide +kernel
theorem dX10_inconsistencies_0 : decode cX10_inconsistencies 0 = .ok (.aload_n 0, 1) := by decide +kernel
theorem dX10_inconsistencies_1 : decode cX10_inconsistencies 1 = .ok (.getfield 66, 3) := by decide +kernel
theorem dX10_inconsistencies_4 : decode cX10_inconsistencies 4 = .ok (.getfield 109, 3) := by decide +kernel
theorem dX10_inconsistencies_7 : decode cX10_inconsistencies 7 = .ok (.aload_n 0, 1) := by decide +kernel
theorem dX10_inconsistencies_8 : decode cX10_inconsistencies 8 = .ok (.getfield 66, 3) := by decide +kernel
theorem dX10_inconsistencies_11 : decode cX10_inconsistencies 11 = .ok (.getfield 249, 3) := by decide +kernel
theorem dX10_inconsistencies_14 : decode cX10_inconsistencies 14 = .ok (.isub, 1) := by decide +kernel
theorem dX10_inconsistencies_15 : decode cX10_inconsistencies 15 = .ok (.aload_n 0, 1) := by decide +kernel
theorem dX10_inconsistencies_16 : decode cX10_inconsistencies 16 = .ok (.getfield 66, 3) := by decide +kernel
theorem dX10_inconsistencies_19 : decode cX10_inconsistencies 19 = .ok (.getfield 252, 3) := by decide +kernel
theorem dX10_inconsistencies_22 : decode cX10_inconsistencies 22 = .ok (.isub, 1) := by decide +kernel
theorem dX10_inconsistencies_23 : decode cX10_inconsistencies 23 = .ok (.aload_n 0, 1) := by decide +kernel
theorem dX10_inconsistencies_24 : decode cX10_inconsistencies 24 = .ok (.getfield 66, 3) := by decide +kernel
theorem dX10_inconsistencies_27 : decode cX10_inconsistencies 27 = .ok (.getfield 258, 3) := by decide +kernel
theorem dX10_inconsistencies_30 : decode cX10_inconsistencies 30 = .ok (.isub, 1) := by decide +kernel
theorem dX10_inconsistencies_31 : decode cX10_inconsistencies 31 = .ok (.aload_n 0, 1) := by decide +kernel
theorem dX10_inconsistencies_32 : decode cX10_inconsistencies 32 = .ok (.getfield 66, 3) := by decide +kernel
theorem dX10_inconsistencies_35 : decode cX10_inconsistencies 35 = .ok (.getfield 261, 3) := by decide +kernel
theorem dX10_inconsistencies_38 : decode cX10_inconsistencies 38 = .ok (.isub, 1) := by decide +kernel
theorem dX10_inconsistencies_39 : decode cX10_inconsistencies 39 = .ok (.ireturn, 1) := by decide +kernel
theorem dX10_minutesToFinish_0 : decode cX10_minutesToFinish 0 = .ok (.aload_n 0, 1) := by decide +kernel
theorem dX10_minutesToFinish_1 : decode cX10_minutesToFinish 1 = .ok (.getfield 10, 3) := by decide +kernel
theorem dX10_minutesToFinish_4 : decode cX10_minutesToFinish 4 = .ok (.aload_n 0, 1) := by decide +kernel
theorem dX10_minutesToFinish_5 : decode cX10_minutesToFinish 5 = .ok (.getfield 66, 3) := by decide +kernel
theorem dX10_minutesToFinish_8 : decode cX10_minutesToFinish 8 = .ok (.invokevirtual 86, 3) := by decide +kernel
theorem dX10_minutesToFinish_11 : decode cX10_minutesToFinish 11 = .ok (.aload_n 0, 1) := by decide +kernel
theorem dX10_minutesToFinish_12 : decode cX10_minutesToFinish 12 = .ok (.getfield 10, 3) := by decide +kernel
theorem dX10_minutesToFinish_15 : decode cX10_minutesToFinish 15 = .ok (.invokevirtual 232, 3) := by decide +kernel
theorem dX10_minutesToFinish_18 : decode cX10_minutesToFinish 18 = .ok (.istore_n 1, 1) := by decide +kernel
theorem dX10_minutesToFinish_19 : decode cX10_minutesToFinish 19 = .ok (.iconst 0, 1) := by decide +kernel
theorem dX10_minutesToFinish_20 : decode cX10_minutesToFinish 20 = .ok (.istore_n 2, 1) := by decide +kernel
theorem dX10_minutesToFinish_21 : decode cX10_minutesToFinish 21 = .ok (.iload_n 2, 1) := by decide +kernel
theorem dX10_minutesToFinish_22 : decode cX10_minutesToFinish 22 = .ok (.sipush 1500, 3) := by decide +kernel
theorem dX10_minutesToFinish_25 : decode cX10_minutesToFinish 25 = .ok (.if_icmp .gt 26, 3) := by decide +kernel
theorem dX10_minutesToFinish_28 : decode cX10_minutesToFinish 28 = .ok (.iload_n 1, 1) := by decide +kernel
theorem dX10_minutesToFinish_29 : decode cX10_minutesToFinish 29 = .ok (.ifCond .ne 5, 3) := by decide +kernel
theorem dX10_minutesToFinish_32 : decode cX10_minutesToFinish 32 = .ok (.iload_n 2, 1) := by decide +kernel
theorem dX10_minutesToFinish_33 : decode cX10_minutesToFinish 33 = .ok (.ireturn, 1) := by decide +kernel
theorem dX10_minutesToFinish_34 : decode cX10_minutesToFinish 34 = .ok (.iload_n 1, 1) := by decide +kernel
theorem dX10_minutesToFinish_35 : decode cX10_minutesToFinish 35 = .ok (.aload_n 0, 1) := by decide +kernel
theorem dX10_minutesToFinish_36 : decode cX10_minutesToFinish 36 = .ok (.getfield 10, 3) := by decide +kernel
theorem dX10_minutesToFinish_39 : decode cX10_minutesToFinish 39 = .ok (.iconst 1, 1) := by decide +kernel
theorem dX10_minutesToFinish_40 : decode cX10_minutesToFinish 40 = .ok (.invokevirtual 264, 3) := by decide +kernel
theorem dX10_minutesToFinish_43 : decode cX10_minutesToFinish 43 = .ok (.isub, 1) := by decide +kernel
theorem dX10_minutesToFinish_44 : decode cX10_minutesToFinish 44 = .ok (.istore_n 1, 1) := by decide +kernel
theorem dX10_minutesToFinish_45 : decode cX10_minutesToFinish 45 = .ok (.iinc 2 1, 3) := by decide +kernel
theorem dX10_minutesToFinish_48 : decode cX10_minutesToFinish 48 = .ok (.goto (-27), 3) := by decide +kernel
theorem dX10_minutesToFinish_51 : decode cX10_minutesToFinish 51 = .ok (.iconst (-1), 1) := by decide +kernel
theorem dX10_minutesToFinish_52 : decode cX10_minutesToFinish 52 = .ok (.ireturn, 1) := by decide +kernel
theorem dX10_minutesToFinishLetter_0 : decode cX10_minutesToFinishLetter 0 = .ok (.aload_n 0, 1) := by decide +kernel
theorem dX10_minutesToFinishLetter_1 : decode cX10_minutesToFinishLetter 1 = .ok (.iload_n 1, 1) := by decide +kernel
theorem dX10_minutesToFinishLetter_2 : decode cX10_minutesToFinishLetter 2 = .ok (.invokevirtual 165, 3) := by decide +kernel
theorem dX10_minutesToFinishLetter_5 : decode cX10_minutesToFinishLetter 5 = .ok (.aload_n 0, 1) := by decide +kernel
theorem dX10_minutesToFinishLetter_6 : decode cX10_minutesToFinishLetter 6 = .ok (.getfield 10, 3) := by decide +kernel
theorem dX10_minutesToFinishLetter_9 : decode cX10_minutesToFinishLetter 9 = .ok (.aload_n 0, 1) := by decide +kernel
theorem dX10_minutesToFinishLetter_10 : decode cX10_minutesToFinishLetter 10 = .ok (.getfield 66, 3) := by decide +kernel
theorem dX10_minutesToFinishLetter_13 : decode cX10_minutesToFinishLetter 13 = .ok (.invokevirtual 86, 3) := by decide +kernel
theorem dX10_minutesToFinishLetter_16 : decode cX10_minutesToFinishLetter 16 = .ok (.iconst 0, 1) := by decide +kernel
theorem dX10_minutesToFinishLetter_17 : decode cX10_minutesToFinishLetter 17 = .ok (.istore_n 2, 1) := by decide +kernel
theorem dX10_minutesToFinishLetter_18 : decode cX10_minutesToFinishLetter 18 = .ok (.iload_n 2, 1) := by decide +kernel
theorem dX10_minutesToFinishLetter_19 : decode cX10_minutesToFinishLetter 19 = .ok (.sipush 1500, 3) := by decide +kernel
theorem dX10_minutesToFinishLetter_22 : decode cX10_minutesToFinishLetter 22 = .ok (.if_icmp .gt 30, 3) := by decide +kernel
theorem dX10_minutesToFinishLetter_25 : decode cX10_minutesToFinishLetter 25 = .ok (.aload_n 0, 1) := by decide +kernel
theorem dX10_minutesToFinishLetter_26 : decode cX10_minutesToFinishLetter 26 = .ok (.getfield 10, 3) := by decide +kernel
theorem dX10_minutesToFinishLetter_29 : decode cX10_minutesToFinishLetter 29 = .ok (.iload_n 1, 1) := by decide +kernel
theorem dX10_minutesToFinishLetter_30 : decode cX10_minutesToFinishLetter 30 = .ok (.invokevirtual 267, 3) := by decide +kernel
theorem dX10_minutesToFinishLetter_33 : decode cX10_minutesToFinishLetter 33 = .ok (.ifCond .eq 5, 3) := by decide +kernel
theorem dX10_minutesToFinishLetter_36 : decode cX10_minutesToFinishLetter 36 = .ok (.iload_n 2, 1) := by decide +kernel
theorem dX10_minutesToFinishLetter_37 : decode cX10_minutesToFinishLetter 37 = .ok (.ireturn, 1) := by decide +kernel
theorem dX10_minutesToFinishLetter_38 : decode cX10_minutesToFinishLetter 38 = .ok (.aload_n 0, 1) := by decide +kernel
theorem dX10_minutesToFinishLetter_39 : decode cX10_minutesToFinishLetter 39 = .ok (.getfield 10, 3) := by decide +kernel
theorem dX10_minutesToFinishLetter_42 : decode cX10_minutesToFinishLetter 42 = .ok (.invokevirtual 270, 3) := by decide +kernel
theorem dX10_minutesToFinishLetter_45 : decode cX10_minutesToFinishLetter 45 = .ok (.pop, 1) := by decide +kernel
theorem dX10_minutesToFinishLetter_46 : decode cX10_minutesToFinishLetter 46 = .ok (.iinc 2 1, 3) := by decide +kernel
theorem dX10_minutesToFinishLetter_49 : decode cX10_minutesToFinishLetter 49 = .ok (.goto (-31), 3) := by decide +kernel
theorem dX10_minutesToFinishLetter_52 : decode cX10_minutesToFinishLetter 52 = .ok (.iconst (-1), 1) := by decide +kernel
theorem dX10_minutesToFinishLetter_53 : decode cX10_minutesToFinishLetter 53 = .ok (.ireturn, 1) := by decide +kernel
theorem dX10_letterWrittenIn_0 : decode cX10_letterWrittenIn 0 = .ok (.iload_n 1, 1) := by decide +kernel
theorem dX10_letterWrittenIn_1 : decode cX10_letterWrittenIn 1 = .ok (.ifCond .lt 10, 3) := by decide +kernel
theorem dX10_letterWrittenIn_4 : decode cX10_letterWrittenIn 4 = .ok (.iload_n 1, 1) := by decide +kernel
theorem dX10_letterWrittenIn_5 : decode cX10_letterWrittenIn 5 = .ok (.sipush 300, 3) := by decide +kernel
theorem dX10_letterWrittenIn_8 : decode cX10_letterWrittenIn 8 = .ok (.if_icmp .le 14, 3) := by decide +kernel
theorem dX10_letterWrittenIn_11 : decode cX10_letterWrittenIn 11 = .ok (.new 79, 3) := by decide +kernel
theorem dX10_letterWrittenIn_14 : decode cX10_letterWrittenIn 14 = .ok (.dup, 1) := by decide +kernel
theorem dX10_letterWrittenIn_15 : decode cX10_letterWrittenIn 15 = .ok (.ldc_w 273, 3) := by decide +kernel
theorem dX10_letterWrittenIn_18 : decode cX10_letterWrittenIn 18 = .ok (.invokespecial 83, 3) := by decide +kernel
theorem dX10_letterWrittenIn_21 : decode cX10_letterWrittenIn 21 = .ok (.athrow, 1) := by decide +kernel
theorem dX10_letterWrittenIn_22 : decode cX10_letterWrittenIn 22 = .ok (.aload_n 0, 1) := by decide +kernel
theorem dX10_letterWrittenIn_23 : decode cX10_letterWrittenIn 23 = .ok (.getfield 10, 3) := by decide +kernel
theorem dX10_letterWrittenIn_26 : decode cX10_letterWrittenIn 26 = .ok (.aload_n 0, 1) := by decide +kernel
theorem dX10_letterWrittenIn_27 : decode cX10_letterWrittenIn 27 = .ok (.getfield 66, 3) := by decide +kernel
theorem dX10_letterWrittenIn_30 : decode cX10_letterWrittenIn 30 = .ok (.invokevirtual 86, 3) := by decide +kernel
theorem dX10_letterWrittenIn_33 : decode cX10_letterWrittenIn 33 = .ok (.iconst 0, 1) := by decide +kernel
theorem dX10_letterWrittenIn_34 : decode cX10_letterWrittenIn 34 = .ok (.istore_n 2, 1) := by decide +kernel
theorem dX10_letterWrittenIn_35 : decode cX10_letterWrittenIn 35 = .ok (.iload_n 2, 1) := by decide +kernel
theorem dX10_letterWrittenIn_36 : decode cX10_letterWrittenIn 36 = .ok (.iload_n 1, 1) := by decide +kernel
theorem dX10_letterWrittenIn_37 : decode cX10_letterWrittenIn 37 = .ok (.if_icmp .ge 17, 3) := by decide +kernel
theorem dX10_letterWrittenIn_40 : decode cX10_letterWrittenIn 40 = .ok (.aload_n 0, 1) := by decide +kernel
theorem dX10_letterWrittenIn_41 : decode cX10_letterWrittenIn 41 = .ok (.getfield 10, 3) := by decide +kernel
theorem dX10_letterWrittenIn_44 : decode cX10_letterWrittenIn 44 = .ok (.invokevirtual 270, 3) := by decide +kernel
theorem dX10_letterWrittenIn_47 : decode cX10_letterWrittenIn 47 = .ok (.pop, 1) := by decide +kernel
theorem dX10_letterWrittenIn_48 : decode cX10_letterWrittenIn 48 = .ok (.iinc 2 1, 3) := by decide +kernel
theorem dX10_letterWrittenIn_51 : decode cX10_letterWrittenIn 51 = .ok (.goto (-16), 3) := by decide +kernel
theorem dX10_letterWrittenIn_54 : decode cX10_letterWrittenIn 54 = .ok (.aload_n 0, 1) := by decide +kernel
theorem dX10_letterWrittenIn_55 : decode cX10_letterWrittenIn 55 = .ok (.getfield 10, 3) := by decide +kernel
theorem dX10_letterWrittenIn_58 : decode cX10_letterWrittenIn 58 = .ok (.invokevirtual 270, 3) := by decide +kernel
theorem dX10_letterWrittenIn_61 : decode cX10_letterWrittenIn 61 = .ok (.ireturn, 1) := by decide +kernel
theorem dX10_lateWith_0 : decode cX10_lateWith 0 = .ok (.iload_n 1, 1) := by decide +kernel
theorem dX10_lateWith_1 : decode cX10_lateWith 1 = .ok (.invokestatic 218, 3) := by decide +kernel
theorem dX10_lateWith_4 : decode cX10_lateWith 4 = .ok (.invokestatic 222, 3) := by decide +kernel
theorem dX10_lateWith_7 : decode cX10_lateWith 7 = .ok (.aload_n 0, 1) := by decide +kernel
theorem dX10_lateWith_8 : decode cX10_lateWith 8 = .ok (.iload_n 1, 1) := by decide +kernel
theorem dX10_lateWith_9 : decode cX10_lateWith 9 = .ok (.invokevirtual 275, 3) := by decide +kernel
theorem dX10_lateWith_12 : decode cX10_lateWith 12 = .ok (.aload_n 0, 1) := by decide +kernel
theorem dX10_lateWith_13 : decode cX10_lateWith 13 = .ok (.getfield 10, 3) := by decide +kernel
theorem dX10_lateWith_16 : decode cX10_lateWith 16 = .ok (.invokevirtual 235, 3) := by decide +kernel
theorem dX10_lateWith_19 : decode cX10_lateWith 19 = .ok (.aload_n 0, 1) := by decide +kernel
theorem dX10_lateWith_20 : decode cX10_lateWith 20 = .ok (.getfield 10, 3) := by decide +kernel
theorem dX10_lateWith_23 : decode cX10_lateWith 23 = .ok (.invokevirtual 232, 3) := by decide +kernel
theorem dX10_lateWith_26 : decode cX10_lateWith 26 = .ok (.iadd, 1) := by decide +kernel
theorem dX10_lateWith_27 : decode cX10_lateWith 27 = .ok (.ireturn, 1) := by decide +kernel
theorem dX10_waitingWith_0 : decode cX10_waitingWith 0 = .ok (.iload_n 1, 1) := by decide +kernel
theorem dX10_waitingWith_1 : decode cX10_waitingWith 1 = .ok (.invokestatic 218, 3) := by decide +kernel
theorem dX10_waitingWith_4 : decode cX10_waitingWith 4 = .ok (.invokestatic 222, 3) := by decide +kernel
theorem dX10_waitingWith_7 : decode cX10_waitingWith 7 = .ok (.aload_n 0, 1) := by decide +kernel
theorem dX10_waitingWith_8 : decode cX10_waitingWith 8 = .ok (.iload_n 1, 1) := by decide +kernel
theorem dX10_waitingWith_9 : decode cX10_waitingWith 9 = .ok (.invokevirtual 275, 3) := by decide +kernel
theorem dX10_waitingWith_12 : decode cX10_waitingWith 12 = .ok (.aload_n 0, 1) := by decide +kernel
theorem dX10_waitingWith_13 : decode cX10_waitingWith 13 = .ok (.getfield 10, 3) := by decide +kernel
theorem dX10_waitingWith_16 : decode cX10_waitingWith 16 = .ok (.invokevirtual 278, 3) := by decide +kernel
theorem dX10_waitingWith_19 : decode cX10_waitingWith 19 = .ok (.ireturn, 1) := by decide +kernel
theorem dX10_bestPolicy_0 : decode cX10_bestPolicy 0 = .ok (.iconst (-1), 1) := by decide +kernel
theorem dX10_bestPolicy_1 : decode cX10_bestPolicy 1 = .ok (.istore_n 1, 1) := by decide +kernel
theorem dX10_bestPolicy_2 : decode cX10_bestPolicy 2 = .ok (.iconst 0, 1) := by decide +kernel
theorem dX10_bestPolicy_3 : decode cX10_bestPolicy 3 = .ok (.istore_n 2, 1) := by decide +kernel
theorem dX10_bestPolicy_4 : decode cX10_bestPolicy 4 = .ok (.iconst 0, 1) := by decide +kernel
theorem dX10_bestPolicy_5 : decode cX10_bestPolicy 5 = .ok (.istore_n 3, 1) := by decide +kernel
theorem dX10_bestPolicy_6 : decode cX10_bestPolicy 6 = .ok (.iconst 0, 1) := by decide +kernel
theorem dX10_bestPolicy_7 : decode cX10_bestPolicy 7 = .ok (.istore 4, 2) := by decide +kernel
theorem dX10_bestPolicy_9 : decode cX10_bestPolicy 9 = .ok (.iload 4, 2) := by decide +kernel
theorem dX10_bestPolicy_11 : decode cX10_bestPolicy 11 = .ok (.iconst 5, 1) := by decide +kernel
theorem dX10_bestPolicy_12 : decode cX10_bestPolicy 12 = .ok (.if_icmp .ge 73, 3) := by decide +kernel
theorem dX10_bestPolicy_15 : decode cX10_bestPolicy 15 = .ok (.aload_n 0, 1) := by decide +kernel
theorem dX10_bestPolicy_16 : decode cX10_bestPolicy 16 = .ok (.iload 4, 2) := by decide +kernel
theorem dX10_bestPolicy_18 : decode cX10_bestPolicy 18 = .ok (.invokevirtual 275, 3) := by decide +kernel
theorem dX10_bestPolicy_21 : decode cX10_bestPolicy 21 = .ok (.aload_n 0, 1) := by decide +kernel
theorem dX10_bestPolicy_22 : decode cX10_bestPolicy 22 = .ok (.getfield 10, 3) := by decide +kernel
theorem dX10_bestPolicy_25 : decode cX10_bestPolicy 25 = .ok (.invokevirtual 235, 3) := by decide +kernel
theorem dX10_bestPolicy_28 : decode cX10_bestPolicy 28 = .ok (.aload_n 0, 1) := by decide +kernel
theorem dX10_bestPolicy_29 : decode cX10_bestPolicy 29 = .ok (.getfield 10, 3) := by decide +kernel
theorem dX10_bestPolicy_32 : decode cX10_bestPolicy 32 = .ok (.invokevirtual 232, 3) := by decide +kernel
theorem dX10_bestPolicy_35 : decode cX10_bestPolicy 35 = .ok (.iadd, 1) := by decide +kernel
theorem dX10_bestPolicy_36 : decode cX10_bestPolicy 36 = .ok (.istore 5, 2) := by decide +kernel
theorem dX10_bestPolicy_38 : decode cX10_bestPolicy 38 = .ok (.aload_n 0, 1) := by decide +kernel
theorem dX10_bestPolicy_39 : decode cX10_bestPolicy 39 = .ok (.getfield 10, 3) := by decide +kernel
theorem dX10_bestPolicy_42 : decode cX10_bestPolicy 42 = .ok (.invokevirtual 278, 3) := by decide +kernel
theorem dX10_bestPolicy_45 : decode cX10_bestPolicy 45 = .ok (.istore 6, 2) := by decide +kernel
theorem dX10_bestPolicy_47 : decode cX10_bestPolicy 47 = .ok (.iload_n 1, 1) := by decide +kernel
theorem dX10_bestPolicy_48 : decode cX10_bestPolicy 48 = .ok (.iconst (-1), 1) := by decide +kernel
theorem dX10_bestPolicy_49 : decode cX10_bestPolicy 49 = .ok (.if_icmp .eq 21, 3) := by decide +kernel
theorem dX10_bestPolicy_52 : decode cX10_bestPolicy 52 = .ok (.iload 5, 2) := by decide +kernel
theorem dX10_bestPolicy_54 : decode cX10_bestPolicy 54 = .ok (.iload_n 2, 1) := by decide +kernel
theorem dX10_bestPolicy_55 : decode cX10_bestPolicy 55 = .ok (.if_icmp .lt 15, 3) := by decide +kernel
theorem dX10_bestPolicy_58 : decode cX10_bestPolicy 58 = .ok (.iload 5, 2) := by decide +kernel
theorem dX10_bestPolicy_60 : decode cX10_bestPolicy 60 = .ok (.iload_n 2, 1) := by decide +kernel
theorem dX10_bestPolicy_61 : decode cX10_bestPolicy 61 = .ok (.if_icmp .ne 18, 3) := by decide +kernel
theorem dX10_bestPolicy_64 : decode cX10_bestPolicy 64 = .ok (.iload 6, 2) := by decide +kernel
theorem dX10_bestPolicy_66 : decode cX10_bestPolicy 66 = .ok (.iload_n 3, 1) := by decide +kernel
theorem dX10_bestPolicy_67 : decode cX10_bestPolicy 67 = .ok (.if_icmp .ge 12, 3) := by decide +kernel
theorem dX10_bestPolicy_70 : decode cX10_bestPolicy 70 = .ok (.iload 4, 2) := by decide +kernel
theorem dX10_bestPolicy_72 : decode cX10_bestPolicy 72 = .ok (.istore_n 1, 1) := by decide +kernel
theorem dX10_bestPolicy_73 : decode cX10_bestPolicy 73 = .ok (.iload 5, 2) := by decide +kernel
theorem dX10_bestPolicy_75 : decode cX10_bestPolicy 75 = .ok (.istore_n 2, 1) := by decide +kernel
theorem dX10_bestPolicy_76 : decode cX10_bestPolicy 76 = .ok (.iload 6, 2) := by decide +kernel
theorem dX10_bestPolicy_78 : decode cX10_bestPolicy 78 = .ok (.istore_n 3, 1) := by decide +kernel
theorem dX10_bestPolicy_79 : decode cX10_bestPolicy 79 = .ok (.iinc 4 1, 3) := by decide +kernel
theorem dX10_bestPolicy_82 : decode cX10_bestPolicy 82 = .ok (.goto (-73), 3) := by decide +kernel
theorem dX10_bestPolicy_85 : decode cX10_bestPolicy 85 = .ok (.iload_n 1, 1) := by decide +kernel
theorem dX10_bestPolicy_86 : decode cX10_bestPolicy 86 = .ok (.ireturn, 1) := by decide +kernel
theorem dX10_fewestLate_0 : decode cX10_fewestLate 0 = .ok (.bipush 12, 2) := by decide +kernel
theorem dX10_fewestLate_2 : decode cX10_fewestLate 2 = .ok (.newarray .int, 2) := by decide +kernel
theorem dX10_fewestLate_4 : decode cX10_fewestLate 4 = .ok (.astore_n 1, 1) := by decide +kernel
theorem dX10_fewestLate_5 : decode cX10_fewestLate 5 = .ok (.iconst 0, 1) := by decide +kernel
theorem dX10_fewestLate_6 : decode cX10_fewestLate 6 = .ok (.istore_n 2, 1) := by decide +kernel
theorem dX10_fewestLate_7 : decode cX10_fewestLate 7 = .ok (.iconst 0, 1) := by decide +kernel
theorem dX10_fewestLate_8 : decode cX10_fewestLate 8 = .ok (.istore_n 3, 1) := by decide +kernel
theorem dX10_fewestLate_9 : decode cX10_fewestLate 9 = .ok (.aload_n 0, 1) := by decide +kernel
theorem dX10_fewestLate_10 : decode cX10_fewestLate 10 = .ok (.getfield 66, 3) := by decide +kernel
theorem dX10_fewestLate_13 : decode cX10_fewestLate 13 = .ok (.getfield 109, 3) := by decide +kernel
theorem dX10_fewestLate_16 : decode cX10_fewestLate 16 = .ok (.istore 4, 2) := by decide +kernel
theorem dX10_fewestLate_18 : decode cX10_fewestLate 18 = .ok (.aload_n 0, 1) := by decide +kernel
theorem dX10_fewestLate_19 : decode cX10_fewestLate 19 = .ok (.getfield 66, 3) := by decide +kernel
theorem dX10_fewestLate_22 : decode cX10_fewestLate 22 = .ok (.iconst (-1), 1) := by decide +kernel
theorem dX10_fewestLate_23 : decode cX10_fewestLate 23 = .ok (.invokevirtual 281, 3) := by decide +kernel
theorem dX10_fewestLate_26 : decode cX10_fewestLate 26 = .ok (.istore 5, 2) := by decide +kernel
theorem dX10_fewestLate_28 : decode cX10_fewestLate 28 = .ok (.iconst 0, 1) := by decide +kernel
theorem dX10_fewestLate_29 : decode cX10_fewestLate 29 = .ok (.istore 6, 2) := by decide +kernel
theorem dX10_fewestLate_31 : decode cX10_fewestLate 31 = .ok (.iload 6, 2) := by decide +kernel
theorem dX10_fewestLate_33 : decode cX10_fewestLate 33 = .ok (.bipush 12, 2) := by decide +kernel
theorem dX10_fewestLate_35 : decode cX10_fewestLate 35 = .ok (.if_icmp .ge 100, 3) := by decide +kernel
theorem dX10_fewestLate_38 : decode cX10_fewestLate 38 = .ok (.iload 5, 2) := by decide +kernel
theorem dX10_fewestLate_40 : decode cX10_fewestLate 40 = .ok (.iconst (-1), 1) := by decide +kernel
theorem dX10_fewestLate_41 : decode cX10_fewestLate 41 = .ok (.if_icmp .eq 94, 3) := by decide +kernel
theorem dX10_fewestLate_44 : decode cX10_fewestLate 44 = .ok (.aload_n 1, 1) := by decide +kernel
theorem dX10_fewestLate_45 : decode cX10_fewestLate 45 = .ok (.iload_n 2, 1) := by decide +kernel
theorem dX10_fewestLate_46 : decode cX10_fewestLate 46 = .ok (.aload_n 0, 1) := by decide +kernel
theorem dX10_fewestLate_47 : decode cX10_fewestLate 47 = .ok (.getfield 66, 3) := by decide +kernel
theorem dX10_fewestLate_50 : decode cX10_fewestLate 50 = .ok (.getfield 168, 3) := by decide +kernel
theorem dX10_fewestLate_53 : decode cX10_fewestLate 53 = .ok (.iload 5, 2) := by decide +kernel
theorem dX10_fewestLate_55 : decode cX10_fewestLate 55 = .ok (.aaload, 1) := by decide +kernel
theorem dX10_fewestLate_56 : decode cX10_fewestLate 56 = .ok (.getfield 187, 3) := by decide +kernel
theorem dX10_fewestLate_59 : decode cX10_fewestLate 59 = .ok (.iastore, 1) := by decide +kernel
theorem dX10_fewestLate_60 : decode cX10_fewestLate 60 = .ok (.iload 4, 2) := by decide +kernel
theorem dX10_fewestLate_62 : decode cX10_fewestLate 62 = .ok (.aload_n 1, 1) := by decide +kernel
theorem dX10_fewestLate_63 : decode cX10_fewestLate 63 = .ok (.iload_n 2, 1) := by decide +kernel
theorem dX10_fewestLate_64 : decode cX10_fewestLate 64 = .ok (.iaload, 1) := by decide +kernel
theorem dX10_fewestLate_65 : decode cX10_fewestLate 65 = .ok (.iadd, 1) := by decide +kernel
theorem dX10_fewestLate_66 : decode cX10_fewestLate 66 = .ok (.istore 4, 2) := by decide +kernel
theorem dX10_fewestLate_68 : decode cX10_fewestLate 68 = .ok (.iinc 2 1, 3) := by decide +kernel
theorem dX10_fewestLate_71 : decode cX10_fewestLate 71 = .ok (.iload 4, 2) := by decide +kernel
theorem dX10_fewestLate_73 : decode cX10_fewestLate 73 = .ok (.aload_n 0, 1) := by decide +kernel
theorem dX10_fewestLate_74 : decode cX10_fewestLate 74 = .ok (.getfield 66, 3) := by decide +kernel
theorem dX10_fewestLate_77 : decode cX10_fewestLate 77 = .ok (.getfield 168, 3) := by decide +kernel
theorem dX10_fewestLate_80 : decode cX10_fewestLate 80 = .ok (.iload 5, 2) := by decide +kernel
theorem dX10_fewestLate_82 : decode cX10_fewestLate 82 = .ok (.aaload, 1) := by decide +kernel
theorem dX10_fewestLate_83 : decode cX10_fewestLate 83 = .ok (.getfield 181, 3) := by decide +kernel
theorem dX10_fewestLate_86 : decode cX10_fewestLate 86 = .ok (.if_icmp .le 32, 3) := by decide +kernel
theorem dX10_fewestLate_89 : decode cX10_fewestLate 89 = .ok (.aload_n 1, 1) := by decide +kernel
theorem dX10_fewestLate_90 : decode cX10_fewestLate 90 = .ok (.iload_n 2, 1) := by decide +kernel
theorem dX10_fewestLate_91 : decode cX10_fewestLate 91 = .ok (.invokestatic 284, 3) := by decide +kernel
theorem dX10_fewestLate_94 : decode cX10_fewestLate 94 = .ok (.istore 7, 2) := by decide +kernel
theorem dX10_fewestLate_96 : decode cX10_fewestLate 96 = .ok (.iload 4, 2) := by decide +kernel
theorem dX10_fewestLate_98 : decode cX10_fewestLate 98 = .ok (.aload_n 1, 1) := by decide +kernel
theorem dX10_fewestLate_99 : decode cX10_fewestLate 99 = .ok (.iload 7, 2) := by decide +kernel
theorem dX10_fewestLate_101 : decode cX10_fewestLate 101 = .ok (.iaload, 1) := by decide +kernel
theorem dX10_fewestLate_102 : decode cX10_fewestLate 102 = .ok (.isub, 1) := by decide +kernel
theorem dX10_fewestLate_103 : decode cX10_fewestLate 103 = .ok (.istore 4, 2) := by decide +kernel
theorem dX10_fewestLate_105 : decode cX10_fewestLate 105 = .ok (.iinc 2 (-1), 3) := by decide +kernel
theorem dX10_fewestLate_108 : decode cX10_fewestLate 108 = .ok (.aload_n 1, 1) := by decide +kernel
theorem dX10_fewestLate_109 : decode cX10_fewestLate 109 = .ok (.iload 7, 2) := by decide +kernel
theorem dX10_fewestLate_111 : decode cX10_fewestLate 111 = .ok (.aload_n 1, 1) := by decide +kernel
theorem dX10_fewestLate_112 : decode cX10_fewestLate 112 = .ok (.iload_n 2, 1) := by decide +kernel
theorem dX10_fewestLate_113 : decode cX10_fewestLate 113 = .ok (.iaload, 1) := by decide +kernel
theorem dX10_fewestLate_114 : decode cX10_fewestLate 114 = .ok (.iastore, 1) := by decide +kernel
theorem dX10_fewestLate_115 : decode cX10_fewestLate 115 = .ok (.iinc 3 1, 3) := by decide +kernel
theorem dX10_fewestLate_118 : decode cX10_fewestLate 118 = .ok (.aload_n 0, 1) := by decide +kernel
theorem dX10_fewestLate_119 : decode cX10_fewestLate 119 = .ok (.getfield 66, 3) := by decide +kernel
theorem dX10_fewestLate_122 : decode cX10_fewestLate 122 = .ok (.iload 5, 2) := by decide +kernel
theorem dX10_fewestLate_124 : decode cX10_fewestLate 124 = .ok (.invokevirtual 281, 3) := by decide +kernel
theorem dX10_fewestLate_127 : decode cX10_fewestLate 127 = .ok (.istore 5, 2) := by decide +kernel
theorem dX10_fewestLate_129 : decode cX10_fewestLate 129 = .ok (.iinc 6 1, 3) := by decide +kernel
theorem dX10_fewestLate_132 : decode cX10_fewestLate 132 = .ok (.goto (-101), 3) := by decide +kernel
theorem dX10_fewestLate_135 : decode cX10_fewestLate 135 = .ok (.iload_n 3, 1) := by decide +kernel
theorem dX10_fewestLate_136 : decode cX10_fewestLate 136 = .ok (.ireturn, 1) := by decide +kernel
theorem dX10_addLetter_0 : decode cX10_addLetter 0 = .ok (.aload_n 0, 1) := by decide +kernel
theorem dX10_addLetter_1 : decode cX10_addLetter 1 = .ok (.iload_n 1, 1) := by decide +kernel
theorem dX10_addLetter_2 : decode cX10_addLetter 2 = .ok (.iload_n 2, 1) := by decide +kernel
theorem dX10_addLetter_3 : decode cX10_addLetter 3 = .ok (.iload_n 3, 1) := by decide +kernel
theorem dX10_addLetter_4 : decode cX10_addLetter 4 = .ok (.iload 4, 2) := by decide +kernel
theorem dX10_addLetter_6 : decode cX10_addLetter 6 = .ok (.iload 5, 2) := by decide +kernel
theorem dX10_addLetter_8 : decode cX10_addLetter 8 = .ok (.invokevirtual 288, 3) := by decide +kernel
theorem dX10_addLetter_11 : decode cX10_addLetter 11 = .ok (.invokestatic 222, 3) := by decide +kernel
theorem dX10_addLetter_14 : decode cX10_addLetter 14 = .ok (.aload_n 0, 1) := by decide +kernel
theorem dX10_addLetter_15 : decode cX10_addLetter 15 = .ok (.getfield 33, 3) := by decide +kernel
theorem dX10_addLetter_18 : decode cX10_addLetter 18 = .ok (.aload_n 0, 1) := by decide +kernel
theorem dX10_addLetter_19 : decode cX10_addLetter 19 = .ok (.getfield 66, 3) := by decide +kernel
theorem dX10_addLetter_22 : decode cX10_addLetter 22 = .ok (.invokevirtual 292, 3) := by decide +kernel
theorem dX10_addLetter_25 : decode cX10_addLetter 25 = .ok (.aload_n 0, 1) := by decide +kernel
theorem dX10_addLetter_26 : decode cX10_addLetter 26 = .ok (.getfield 66, 3) := by decide +kernel
theorem dX10_addLetter_29 : decode cX10_addLetter 29 = .ok (.iload_n 1, 1) := by decide +kernel
theorem dX10_addLetter_30 : decode cX10_addLetter 30 = .ok (.iload_n 2, 1) := by decide +kernel
theorem dX10_addLetter_31 : decode cX10_addLetter 31 = .ok (.aload_n 0, 1) := by decide +kernel
theorem dX10_addLetter_32 : decode cX10_addLetter 32 = .ok (.getfield 66, 3) := by decide +kernel
theorem dX10_addLetter_35 : decode cX10_addLetter 35 = .ok (.getfield 109, 3) := by decide +kernel
theorem dX10_addLetter_38 : decode cX10_addLetter 38 = .ok (.iload_n 3, 1) := by decide +kernel
theorem dX10_addLetter_39 : decode cX10_addLetter 39 = .ok (.iadd, 1) := by decide +kernel
theorem dX10_addLetter_40 : decode cX10_addLetter 40 = .ok (.iload 4, 2) := by decide +kernel
theorem dX10_addLetter_42 : decode cX10_addLetter 42 = .ok (.iload 5, 2) := by decide +kernel
theorem dX10_addLetter_44 : decode cX10_addLetter 44 = .ok (.invokevirtual 295, 3) := by decide +kernel
theorem dX10_addLetter_47 : decode cX10_addLetter 47 = .ok (.ireturn, 1) := by decide +kernel
theorem dX10_pass_0 : decode cX10_pass 0 = .ok (.aload_n 0, 1) := by decide +kernel
theorem dX10_pass_1 : decode cX10_pass 1 = .ok (.iload_n 1, 1) := by decide +kernel
theorem dX10_pass_2 : decode cX10_pass 2 = .ok (.invokevirtual 299, 3) := by decide +kernel
theorem dX10_pass_5 : decode cX10_pass 5 = .ok (.invokestatic 222, 3) := by decide +kernel
theorem dX10_pass_8 : decode cX10_pass 8 = .ok (.aload_n 0, 1) := by decide +kernel
theorem dX10_pass_9 : decode cX10_pass 9 = .ok (.getfield 33, 3) := by decide +kernel
theorem dX10_pass_12 : decode cX10_pass 12 = .ok (.aload_n 0, 1) := by decide +kernel
theorem dX10_pass_13 : decode cX10_pass 13 = .ok (.getfield 66, 3) := by decide +kernel
theorem dX10_pass_16 : decode cX10_pass 16 = .ok (.invokevirtual 292, 3) := by decide +kernel
theorem dX10_pass_19 : decode cX10_pass 19 = .ok (.aload_n 0, 1) := by decide +kernel
theorem dX10_pass_20 : decode cX10_pass 20 = .ok (.getfield 66, 3) := by decide +kernel
theorem dX10_pass_23 : decode cX10_pass 23 = .ok (.iload_n 1, 1) := by decide +kernel
theorem dX10_pass_24 : decode cX10_pass 24 = .ok (.invokevirtual 264, 3) := by decide +kernel
theorem dX10_pass_27 : decode cX10_pass 27 = .ok (.ireturn, 1) := by decide +kernel
theorem dX10_setPolicy_0 : decode cX10_setPolicy 0 = .ok (.iload_n 1, 1) := by decide +kernel
theorem dX10_setPolicy_1 : decode cX10_setPolicy 1 = .ok (.invokestatic 218, 3) := by decide +kernel
theorem dX10_setPolicy_4 : decode cX10_setPolicy 4 = .ok (.invokestatic 222, 3) := by decide +kernel
theorem dX10_setPolicy_7 : decode cX10_setPolicy 7 = .ok (.aload_n 0, 1) := by decide +kernel
theorem dX10_setPolicy_8 : decode cX10_setPolicy 8 = .ok (.getfield 33, 3) := by decide +kernel
theorem dX10_setPolicy_11 : decode cX10_setPolicy 11 = .ok (.aload_n 0, 1) := by decide +kernel
theorem dX10_setPolicy_12 : decode cX10_setPolicy 12 = .ok (.getfield 66, 3) := by decide +kernel
theorem dX10_setPolicy_15 : decode cX10_setPolicy 15 = .ok (.invokevirtual 292, 3) := by decide +kernel
theorem dX10_setPolicy_18 : decode cX10_setPolicy 18 = .ok (.aload_n 0, 1) := by decide +kernel
theorem dX10_setPolicy_19 : decode cX10_setPolicy 19 = .ok (.getfield 66, 3) := by decide +kernel
theorem dX10_setPolicy_22 : decode cX10_setPolicy 22 = .ok (.getfield 112, 3) := by decide +kernel
theorem dX10_setPolicy_25 : decode cX10_setPolicy 25 = .ok (.istore_n 2, 1) := by decide +kernel
theorem dX10_setPolicy_26 : decode cX10_setPolicy 26 = .ok (.aload_n 0, 1) := by decide +kernel
theorem dX10_setPolicy_27 : decode cX10_setPolicy 27 = .ok (.getfield 66, 3) := by decide +kernel
theorem dX10_setPolicy_30 : decode cX10_setPolicy 30 = .ok (.iload_n 1, 1) := by decide +kernel
theorem dX10_setPolicy_31 : decode cX10_setPolicy 31 = .ok (.putfield 112, 3) := by decide +kernel
theorem dX10_setPolicy_34 : decode cX10_setPolicy 34 = .ok (.iload_n 2, 1) := by decide +kernel
theorem dX10_setPolicy_35 : decode cX10_setPolicy 35 = .ok (.ireturn, 1) := by decide +kernel
theorem dX10_setDeadline_0 : decode cX10_setDeadline 0 = .ok (.aload_n 0, 1) := by decide +kernel
theorem dX10_setDeadline_1 : decode cX10_setDeadline 1 = .ok (.iload_n 1, 1) := by decide +kernel
theorem dX10_setDeadline_2 : decode cX10_setDeadline 2 = .ok (.iload_n 2, 1) := by decide +kernel
theorem dX10_setDeadline_3 : decode cX10_setDeadline 3 = .ok (.invokevirtual 302, 3) := by decide +kernel
theorem dX10_setDeadline_6 : decode cX10_setDeadline 6 = .ok (.invokestatic 222, 3) := by decide +kernel
theorem dX10_setDeadline_9 : decode cX10_setDeadline 9 = .ok (.aload_n 0, 1) := by decide +kernel
theorem dX10_setDeadline_10 : decode cX10_setDeadline 10 = .ok (.getfield 33, 3) := by decide +kernel
theorem dX10_setDeadline_13 : decode cX10_setDeadline 13 = .ok (.aload_n 0, 1) := by decide +kernel
theorem dX10_setDeadline_14 : decode cX10_setDeadline 14 = .ok (.getfield 66, 3) := by decide +kernel
theorem dX10_setDeadline_17 : decode cX10_setDeadline 17 = .ok (.invokevirtual 292, 3) := by decide +kernel
theorem dX10_setDeadline_20 : decode cX10_setDeadline 20 = .ok (.aload_n 0, 1) := by decide +kernel
theorem dX10_setDeadline_21 : decode cX10_setDeadline 21 = .ok (.getfield 66, 3) := by decide +kernel
theorem dX10_setDeadline_24 : decode cX10_setDeadline 24 = .ok (.getfield 168, 3) := by decide +kernel
theorem dX10_setDeadline_27 : decode cX10_setDeadline 27 = .ok (.iload_n 1, 1) := by decide +kernel
theorem dX10_setDeadline_28 : decode cX10_setDeadline 28 = .ok (.aaload, 1) := by decide +kernel
theorem dX10_setDeadline_29 : decode cX10_setDeadline 29 = .ok (.getfield 181, 3) := by decide +kernel
theorem dX10_setDeadline_32 : decode cX10_setDeadline 32 = .ok (.istore_n 3, 1) := by decide +kernel
theorem dX10_setDeadline_33 : decode cX10_setDeadline 33 = .ok (.aload_n 0, 1) := by decide +kernel
theorem dX10_setDeadline_34 : decode cX10_setDeadline 34 = .ok (.getfield 66, 3) := by decide +kernel
theorem dX10_setDeadline_37 : decode cX10_setDeadline 37 = .ok (.getfield 168, 3) := by decide +kernel
theorem dX10_setDeadline_40 : decode cX10_setDeadline 40 = .ok (.iload_n 1, 1) := by decide +kernel
theorem dX10_setDeadline_41 : decode cX10_setDeadline 41 = .ok (.aaload, 1) := by decide +kernel
theorem dX10_setDeadline_42 : decode cX10_setDeadline 42 = .ok (.iload_n 2, 1) := by decide +kernel
theorem dX10_setDeadline_43 : decode cX10_setDeadline 43 = .ok (.putfield 181, 3) := by decide +kernel
theorem dX10_setDeadline_46 : decode cX10_setDeadline 46 = .ok (.iload_n 3, 1) := by decide +kernel
theorem dX10_setDeadline_47 : decode cX10_setDeadline 47 = .ok (.ireturn, 1) := by decide +kernel
theorem dX10_setPriority_0 : decode cX10_setPriority 0 = .ok (.aload_n 0, 1) := by decide +kernel
theorem dX10_setPriority_1 : decode cX10_setPriority 1 = .ok (.iload_n 1, 1) := by decide +kernel
theorem dX10_setPriority_2 : decode cX10_setPriority 2 = .ok (.iload_n 2, 1) := by decide +kernel
theorem dX10_setPriority_3 : decode cX10_setPriority 3 = .ok (.invokevirtual 306, 3) := by decide +kernel
theorem dX10_setPriority_6 : decode cX10_setPriority 6 = .ok (.invokestatic 222, 3) := by decide +kernel
theorem dX10_setPriority_9 : decode cX10_setPriority 9 = .ok (.aload_n 0, 1) := by decide +kernel
theorem dX10_setPriority_10 : decode cX10_setPriority 10 = .ok (.getfield 33, 3) := by decide +kernel
theorem dX10_setPriority_13 : decode cX10_setPriority 13 = .ok (.aload_n 0, 1) := by decide +kernel
theorem dX10_setPriority_14 : decode cX10_setPriority 14 = .ok (.getfield 66, 3) := by decide +kernel
theorem dX10_setPriority_17 : decode cX10_setPriority 17 = .ok (.invokevirtual 292, 3) := by decide +kernel
theorem dX10_setPriority_20 : decode cX10_setPriority 20 = .ok (.aload_n 0, 1) := by decide +kernel
theorem dX10_setPriority_21 : decode cX10_setPriority 21 = .ok (.getfield 66, 3) := by decide +kernel
theorem dX10_setPriority_24 : decode cX10_setPriority 24 = .ok (.getfield 168, 3) := by decide +kernel
theorem dX10_setPriority_27 : decode cX10_setPriority 27 = .ok (.iload_n 1, 1) := by decide +kernel
theorem dX10_setPriority_28 : decode cX10_setPriority 28 = .ok (.aaload, 1) := by decide +kernel
theorem dX10_setPriority_29 : decode cX10_setPriority 29 = .ok (.getfield 184, 3) := by decide +kernel
theorem dX10_setPriority_32 : decode cX10_setPriority 32 = .ok (.istore_n 3, 1) := by decide +kernel
theorem dX10_setPriority_33 : decode cX10_setPriority 33 = .ok (.aload_n 0, 1) := by decide +kernel
theorem dX10_setPriority_34 : decode cX10_setPriority 34 = .ok (.getfield 66, 3) := by decide +kernel
theorem dX10_setPriority_37 : decode cX10_setPriority 37 = .ok (.getfield 168, 3) := by decide +kernel
theorem dX10_setPriority_40 : decode cX10_setPriority 40 = .ok (.iload_n 1, 1) := by decide +kernel
theorem dX10_setPriority_41 : decode cX10_setPriority 41 = .ok (.aaload, 1) := by decide +kernel
theorem dX10_setPriority_42 : decode cX10_setPriority 42 = .ok (.iload_n 2, 1) := by decide +kernel
theorem dX10_setPriority_43 : decode cX10_setPriority 43 = .ok (.putfield 184, 3) := by decide +kernel
theorem dX10_setPriority_46 : decode cX10_setPriority 46 = .ok (.iload_n 3, 1) := by decide +kernel
theorem dX10_setPriority_47 : decode cX10_setPriority 47 = .ok (.ireturn, 1) := by decide +kernel
theorem dX10_extend_0 : decode cX10_extend 0 = .ok (.aload_n 0, 1) := by decide +kernel
theorem dX10_extend_1 : decode cX10_extend 1 = .ok (.iload_n 1, 1) := by decide +kernel
theorem dX10_extend_2 : decode cX10_extend 2 = .ok (.iload_n 2, 1) := by decide +kernel
theorem dX10_extend_3 : decode cX10_extend 3 = .ok (.invokevirtual 309, 3) := by decide +kernel
theorem dX10_extend_6 : decode cX10_extend 6 = .ok (.invokestatic 222, 3) := by decide +kernel
theorem dX10_extend_9 : decode cX10_extend 9 = .ok (.aload_n 0, 1) := by decide +kernel
theorem dX10_extend_10 : decode cX10_extend 10 = .ok (.getfield 33, 3) := by decide +kernel
theorem dX10_extend_13 : decode cX10_extend 13 = .ok (.aload_n 0, 1) := by decide +kernel
theorem dX10_extend_14 : decode cX10_extend 14 = .ok (.getfield 66, 3) := by decide +kernel
theorem dX10_extend_17 : decode cX10_extend 17 = .ok (.invokevirtual 292, 3) := by decide +kernel
theorem dX10_extend_20 : decode cX10_extend 20 = .ok (.aload_n 0, 1) := by decide +kernel
theorem dX10_extend_21 : decode cX10_extend 21 = .ok (.getfield 66, 3) := by decide +kernel
theorem dX10_extend_24 : decode cX10_extend 24 = .ok (.getfield 168, 3) := by decide +kernel
theorem dX10_extend_27 : decode cX10_extend 27 = .ok (.iload_n 1, 1) := by decide +kernel
theorem dX10_extend_28 : decode cX10_extend 28 = .ok (.aaload, 1) := by decide +kernel
theorem dX10_extend_29 : decode cX10_extend 29 = .ok (.dup, 1) := by decide +kernel
theorem dX10_extend_30 : decode cX10_extend 30 = .ok (.getfield 177, 3) := by decide +kernel
theorem dX10_extend_33 : decode cX10_extend 33 = .ok (.iload_n 2, 1) := by decide +kernel
theorem dX10_extend_34 : decode cX10_extend 34 = .ok (.iadd, 1) := by decide +kernel
theorem dX10_extend_35 : decode cX10_extend 35 = .ok (.putfield 177, 3) := by decide +kernel
theorem dX10_extend_38 : decode cX10_extend 38 = .ok (.aload_n 0, 1) := by decide +kernel
theorem dX10_extend_39 : decode cX10_extend 39 = .ok (.getfield 66, 3) := by decide +kernel
theorem dX10_extend_42 : decode cX10_extend 42 = .ok (.getfield 168, 3) := by decide +kernel
theorem dX10_extend_45 : decode cX10_extend 45 = .ok (.iload_n 1, 1) := by decide +kernel
theorem dX10_extend_46 : decode cX10_extend 46 = .ok (.aaload, 1) := by decide +kernel
theorem dX10_extend_47 : decode cX10_extend 47 = .ok (.dup, 1) := by decide +kernel
theorem dX10_extend_48 : decode cX10_extend 48 = .ok (.getfield 187, 3) := by decide +kernel
theorem dX10_extend_51 : decode cX10_extend 51 = .ok (.iload_n 2, 1) := by decide +kernel
theorem dX10_extend_52 : decode cX10_extend 52 = .ok (.iadd, 1) := by decide +kernel
theorem dX10_extend_53 : decode cX10_extend 53 = .ok (.putfield 187, 3) := by decide +kernel
theorem dX10_extend_56 : decode cX10_extend 56 = .ok (.aload_n 0, 1) := by decide +kernel
theorem dX10_extend_57 : decode cX10_extend 57 = .ok (.getfield 66, 3) := by decide +kernel
theorem dX10_extend_60 : decode cX10_extend 60 = .ok (.getfield 168, 3) := by decide +kernel
theorem dX10_extend_63 : decode cX10_extend 63 = .ok (.iload_n 1, 1) := by decide +kernel
theorem dX10_extend_64 : decode cX10_extend 64 = .ok (.aaload, 1) := by decide +kernel
theorem dX10_extend_65 : decode cX10_extend 65 = .ok (.getfield 187, 3) := by decide +kernel
theorem dX10_extend_68 : decode cX10_extend 68 = .ok (.ireturn, 1) := by decide +kernel
theorem dX10_discard_0 : decode cX10_discard 0 = .ok (.aload_n 0, 1) := by decide +kernel
theorem dX10_discard_1 : decode cX10_discard 1 = .ok (.iload_n 1, 1) := by decide +kernel
theorem dX10_discard_2 : decode cX10_discard 2 = .ok (.invokevirtual 312, 3) := by decide +kernel
theorem dX10_discard_5 : decode cX10_discard 5 = .ok (.invokestatic 222, 3) := by decide +kernel
theorem dX10_discard_8 : decode cX10_discard 8 = .ok (.aload_n 0, 1) := by decide +kernel
theorem dX10_discard_9 : decode cX10_discard 9 = .ok (.getfield 33, 3) := by decide +kernel
theorem dX10_discard_12 : decode cX10_discard 12 = .ok (.aload_n 0, 1) := by decide +kernel
theorem dX10_discard_13 : decode cX10_discard 13 = .ok (.getfield 66, 3) := by decide +kernel
theorem dX10_discard_16 : decode cX10_discard 16 = .ok (.invokevirtual 292, 3) := by decide +kernel
theorem dX10_discard_19 : decode cX10_discard 19 = .ok (.aload_n 0, 1) := by decide +kernel
theorem dX10_discard_20 : decode cX10_discard 20 = .ok (.getfield 66, 3) := by decide +kernel
theorem dX10_discard_23 : decode cX10_discard 23 = .ok (.iload_n 1, 1) := by decide +kernel
theorem dX10_discard_24 : decode cX10_discard 24 = .ok (.invokevirtual 315, 3) := by decide +kernel
theorem dX10_discard_27 : decode cX10_discard 27 = .ok (.ireturn, 1) := by decide +kernel
theorem dX10_runScript_0 : decode cX10_runScript 0 = .ok (.aload_n 0, 1) := by decide +kernel
theorem dX10_runScript_1 : decode cX10_runScript 1 = .ok (.getfield 19, 3) := by decide +kernel
theorem dX10_runScript_4 : decode cX10_runScript 4 = .ok (.aload_n 0, 1) := by decide +kernel
theorem dX10_runScript_5 : decode cX10_runScript 5 = .ok (.getfield 62, 3) := by decide +kernel
theorem dX10_runScript_8 : decode cX10_runScript 8 = .ok (.aload_n 0, 1) := by decide +kernel
theorem dX10_runScript_9 : decode cX10_runScript 9 = .ok (.getfield 66, 3) := by decide +kernel
theorem dX10_runScript_12 : decode cX10_runScript 12 = .ok (.getfield 102, 3) := by decide +kernel
theorem dX10_runScript_15 : decode cX10_runScript 15 = .ok (.invokevirtual 318, 3) := by decide +kernel
theorem dX10_runScript_18 : decode cX10_runScript 18 = .ok (.istore_n 1, 1) := by decide +kernel
theorem dX10_runScript_19 : decode cX10_runScript 19 = .ok (.aload_n 0, 1) := by decide +kernel
theorem dX10_runScript_20 : decode cX10_runScript 20 = .ok (.getfield 62, 3) := by decide +kernel
theorem dX10_runScript_23 : decode cX10_runScript 23 = .ok (.iconst 0, 1) := by decide +kernel
theorem dX10_runScript_24 : decode cX10_runScript 24 = .ok (.putfield 58, 3) := by decide +kernel
theorem dX10_runScript_27 : decode cX10_runScript 27 = .ok (.iload_n 1, 1) := by decide +kernel
theorem dX10_runScript_28 : decode cX10_runScript 28 = .ok (.ifCond .ne 14, 3) := by decide +kernel
theorem dX10_runScript_31 : decode cX10_runScript 31 = .ok (.new 79, 3) := by decide +kernel
theorem dX10_runScript_34 : decode cX10_runScript 34 = .ok (.dup, 1) := by decide +kernel
theorem dX10_runScript_35 : decode cX10_runScript 35 = .ok (.ldc_w 322, 3) := by decide +kernel
theorem dX10_runScript_38 : decode cX10_runScript 38 = .ok (.invokespecial 83, 3) := by decide +kernel
theorem dX10_runScript_41 : decode cX10_runScript 41 = .ok (.athrow, 1) := by decide +kernel
theorem dX10_runScript_42 : decode cX10_runScript 42 = .ok (.aload_n 0, 1) := by decide +kernel
theorem dX10_runScript_43 : decode cX10_runScript 43 = .ok (.getfield 33, 3) := by decide +kernel
theorem dX10_runScript_46 : decode cX10_runScript 46 = .ok (.aload_n 0, 1) := by decide +kernel
theorem dX10_runScript_47 : decode cX10_runScript 47 = .ok (.getfield 66, 3) := by decide +kernel
theorem dX10_runScript_50 : decode cX10_runScript 50 = .ok (.invokevirtual 292, 3) := by decide +kernel
theorem dX10_runScript_53 : decode cX10_runScript 53 = .ok (.iconst 0, 1) := by decide +kernel
theorem dX10_runScript_54 : decode cX10_runScript 54 = .ok (.istore_n 2, 1) := by decide +kernel
theorem dX10_runScript_55 : decode cX10_runScript 55 = .ok (.iload_n 2, 1) := by decide +kernel
theorem dX10_runScript_56 : decode cX10_runScript 56 = .ok (.aload_n 0, 1) := by decide +kernel
theorem dX10_runScript_57 : decode cX10_runScript 57 = .ok (.getfield 19, 3) := by decide +kernel
theorem dX10_runScript_60 : decode cX10_runScript 60 = .ok (.getfield 324, 3) := by decide +kernel
theorem dX10_runScript_63 : decode cX10_runScript 63 = .ok (.if_icmp .ge 25, 3) := by decide +kernel
theorem dX10_runScript_66 : decode cX10_runScript 66 = .ok (.aload_n 0, 1) := by decide +kernel
theorem dX10_runScript_67 : decode cX10_runScript 67 = .ok (.aload_n 0, 1) := by decide +kernel
theorem dX10_runScript_68 : decode cX10_runScript 68 = .ok (.getfield 19, 3) := by decide +kernel
theorem dX10_runScript_71 : decode cX10_runScript 71 = .ok (.getfield 325, 3) := by decide +kernel
theorem dX10_runScript_74 : decode cX10_runScript 74 = .ok (.iload_n 2, 1) := by decide +kernel
theorem dX10_runScript_75 : decode cX10_runScript 75 = .ok (.aaload, 1) := by decide +kernel
theorem dX10_runScript_76 : decode cX10_runScript 76 = .ok (.invokevirtual 329, 3) := by decide +kernel
theorem dX10_runScript_79 : decode cX10_runScript 79 = .ok (.ifCond .eq 9, 3) := by decide +kernel
theorem dX10_runScript_82 : decode cX10_runScript 82 = .ok (.iinc 2 1, 3) := by decide +kernel
theorem dX10_runScript_85 : decode cX10_runScript 85 = .ok (.goto (-30), 3) := by decide +kernel
theorem dX10_runScript_88 : decode cX10_runScript 88 = .ok (.iload_n 2, 1) := by decide +kernel
theorem dX10_runScript_89 : decode cX10_runScript 89 = .ok (.ireturn, 1) := by decide +kernel
theorem dX10_undo_0 : decode cX10_undo 0 = .ok (.aload_n 0, 1) := by decide +kernel
theorem dX10_undo_1 : decode cX10_undo 1 = .ok (.getfield 33, 3) := by decide +kernel
theorem dX10_undo_4 : decode cX10_undo 4 = .ok (.getfield 90, 3) := by decide +kernel
theorem dX10_undo_7 : decode cX10_undo 7 = .ok (.ifCond .ne 14, 3) := by decide +kernel
theorem dX10_undo_10 : decode cX10_undo 10 = .ok (.new 69, 3) := by decide +kernel
theorem dX10_undo_13 : decode cX10_undo 13 = .ok (.dup, 1) := by decide +kernel
theorem dX10_undo_14 : decode cX10_undo 14 = .ok (.ldc_w 333, 3) := by decide +kernel
theorem dX10_undo_17 : decode cX10_undo 17 = .ok (.invokespecial 73, 3) := by decide +kernel
theorem dX10_undo_20 : decode cX10_undo 20 = .ok (.athrow, 1) := by decide +kernel
theorem dX10_undo_21 : decode cX10_undo 21 = .ok (.aload_n 0, 1) := by decide +kernel
theorem dX10_undo_22 : decode cX10_undo 22 = .ok (.getfield 33, 3) := by decide +kernel
theorem dX10_undo_25 : decode cX10_undo 25 = .ok (.aload_n 0, 1) := by decide +kernel
theorem dX10_undo_26 : decode cX10_undo 26 = .ok (.getfield 66, 3) := by decide +kernel
theorem dX10_undo_29 : decode cX10_undo 29 = .ok (.invokevirtual 335, 3) := by decide +kernel
theorem dX10_undo_32 : decode cX10_undo 32 = .ok (.aload_n 0, 1) := by decide +kernel
theorem dX10_undo_33 : decode cX10_undo 33 = .ok (.getfield 33, 3) := by decide +kernel
theorem dX10_undo_36 : decode cX10_undo 36 = .ok (.getfield 90, 3) := by decide +kernel
theorem dX10_undo_39 : decode cX10_undo 39 = .ok (.ireturn, 1) := by decide +kernel
theorem dX10_save_0 : decode cX10_save 0 = .ok (.iload_n 1, 1) := by decide +kernel
theorem dX10_save_1 : decode cX10_save 1 = .ok (.invokestatic 338, 3) := by decide +kernel
theorem dX10_save_4 : decode cX10_save 4 = .ok (.aload_n 0, 1) := by decide +kernel
theorem dX10_save_5 : decode cX10_save 5 = .ok (.getfield 37, 3) := by decide +kernel
theorem dX10_save_8 : decode cX10_save 8 = .ok (.iload_n 1, 1) := by decide +kernel
theorem dX10_save_9 : decode cX10_save 9 = .ok (.aaload, 1) := by decide +kernel
theorem dX10_save_10 : decode cX10_save 10 = .ok (.aload_n 0, 1) := by decide +kernel
theorem dX10_save_11 : decode cX10_save 11 = .ok (.getfield 66, 3) := by decide +kernel
theorem dX10_save_14 : decode cX10_save 14 = .ok (.invokevirtual 86, 3) := by decide +kernel
theorem dX10_save_17 : decode cX10_save 17 = .ok (.aload_n 0, 1) := by decide +kernel
theorem dX10_save_18 : decode cX10_save 18 = .ok (.getfield 41, 3) := by decide +kernel
theorem dX10_save_21 : decode cX10_save 21 = .ok (.iload_n 1, 1) := by decide +kernel
theorem dX10_save_22 : decode cX10_save 22 = .ok (.iconst 1, 1) := by decide +kernel
theorem dX10_save_23 : decode cX10_save 23 = .ok (.bastore, 1) := by decide +kernel
theorem dX10_save_24 : decode cX10_save 24 = .ok (.aload_n 0, 1) := by decide +kernel
theorem dX10_save_25 : decode cX10_save 25 = .ok (.getfield 66, 3) := by decide +kernel
theorem dX10_save_28 : decode cX10_save 28 = .ok (.getfield 109, 3) := by decide +kernel
theorem dX10_save_31 : decode cX10_save 31 = .ok (.ireturn, 1) := by decide +kernel
theorem dX10_restore_0 : decode cX10_restore 0 = .ok (.iload_n 1, 1) := by decide +kernel
theorem dX10_restore_1 : decode cX10_restore 1 = .ok (.invokestatic 338, 3) := by decide +kernel
theorem dX10_restore_4 : decode cX10_restore 4 = .ok (.aload_n 0, 1) := by decide +kernel
theorem dX10_restore_5 : decode cX10_restore 5 = .ok (.getfield 41, 3) := by decide +kernel
theorem dX10_restore_8 : decode cX10_restore 8 = .ok (.iload_n 1, 1) := by decide +kernel
theorem dX10_restore_9 : decode cX10_restore 9 = .ok (.baload, 1) := by decide +kernel
theorem dX10_restore_10 : decode cX10_restore 10 = .ok (.ifCond .ne 14, 3) := by decide +kernel
theorem dX10_restore_13 : decode cX10_restore 13 = .ok (.new 69, 3) := by decide +kernel
theorem dX10_restore_16 : decode cX10_restore 16 = .ok (.dup, 1) := by decide +kernel
theorem dX10_restore_17 : decode cX10_restore 17 = .ok (.ldc_w 341, 3) := by decide +kernel
theorem dX10_restore_20 : decode cX10_restore 20 = .ok (.invokespecial 73, 3) := by decide +kernel
theorem dX10_restore_23 : decode cX10_restore 23 = .ok (.athrow, 1) := by decide +kernel
theorem dX10_restore_24 : decode cX10_restore 24 = .ok (.aload_n 0, 1) := by decide +kernel
theorem dX10_restore_25 : decode cX10_restore 25 = .ok (.getfield 66, 3) := by decide +kernel
theorem dX10_restore_28 : decode cX10_restore 28 = .ok (.aload_n 0, 1) := by decide +kernel
theorem dX10_restore_29 : decode cX10_restore 29 = .ok (.getfield 37, 3) := by decide +kernel
theorem dX10_restore_32 : decode cX10_restore 32 = .ok (.iload_n 1, 1) := by decide +kernel
theorem dX10_restore_33 : decode cX10_restore 33 = .ok (.aaload, 1) := by decide +kernel
theorem dX10_restore_34 : decode cX10_restore 34 = .ok (.invokevirtual 86, 3) := by decide +kernel
theorem dX10_restore_37 : decode cX10_restore 37 = .ok (.aload_n 0, 1) := by decide +kernel
theorem dX10_restore_38 : decode cX10_restore 38 = .ok (.getfield 33, 3) := by decide +kernel
theorem dX10_restore_41 : decode cX10_restore 41 = .ok (.iconst 0, 1) := by decide +kernel
theorem dX10_restore_42 : decode cX10_restore 42 = .ok (.putfield 90, 3) := by decide +kernel
theorem dX10_restore_45 : decode cX10_restore 45 = .ok (.aload_n 0, 1) := by decide +kernel
theorem dX10_restore_46 : decode cX10_restore 46 = .ok (.getfield 66, 3) := by decide +kernel
theorem dX10_restore_49 : decode cX10_restore 49 = .ok (.getfield 109, 3) := by decide +kernel
theorem dX10_restore_52 : decode cX10_restore 52 = .ok (.ireturn, 1) := by decide +kernel
theorem dX10_writeLetters_0 : decode cX10_writeLetters 0 = .ok (.aload_n 0, 1) := by decide +kernel
theorem dX10_writeLetters_1 : decode cX10_writeLetters 1 = .ok (.getfield 26, 3) := by decide +kernel
theorem dX10_writeLetters_4 : decode cX10_writeLetters 4 = .ok (.iconst 0, 1) := by decide +kernel
theorem dX10_writeLetters_5 : decode cX10_writeLetters 5 = .ok (.putfield 343, 3) := by decide +kernel
theorem dX10_writeLetters_8 : decode cX10_writeLetters 8 = .ok (.iconst 0, 1) := by decide +kernel
theorem dX10_writeLetters_9 : decode cX10_writeLetters 9 = .ok (.istore_n 1, 1) := by decide +kernel
theorem dX10_writeLetters_10 : decode cX10_writeLetters 10 = .ok (.iload_n 1, 1) := by decide +kernel
theorem dX10_writeLetters_11 : decode cX10_writeLetters 11 = .ok (.aload_n 0, 1) := by decide +kernel
theorem dX10_writeLetters_12 : decode cX10_writeLetters 12 = .ok (.getfield 66, 3) := by decide +kernel
theorem dX10_writeLetters_15 : decode cX10_writeLetters 15 = .ok (.getfield 93, 3) := by decide +kernel
theorem dX10_writeLetters_18 : decode cX10_writeLetters 18 = .ok (.if_icmp .ge 174, 3) := by decide +kernel
theorem dX10_writeLetters_21 : decode cX10_writeLetters 21 = .ok (.aload_n 0, 1) := by decide +kernel
theorem dX10_writeLetters_22 : decode cX10_writeLetters 22 = .ok (.getfield 66, 3) := by decide +kernel
theorem dX10_writeLetters_25 : decode cX10_writeLetters 25 = .ok (.getfield 168, 3) := by decide +kernel
theorem dX10_writeLetters_28 : decode cX10_writeLetters 28 = .ok (.iload_n 1, 1) := by decide +kernel
theorem dX10_writeLetters_29 : decode cX10_writeLetters 29 = .ok (.aaload, 1) := by decide +kernel
theorem dX10_writeLetters_30 : decode cX10_writeLetters 30 = .ok (.astore_n 2, 1) := by decide +kernel
theorem dX10_writeLetters_31 : decode cX10_writeLetters 31 = .ok (.iload_n 1, 1) := by decide +kernel
theorem dX10_writeLetters_32 : decode cX10_writeLetters 32 = .ok (.ifCond .le 12, 3) := by decide +kernel
theorem dX10_writeLetters_35 : decode cX10_writeLetters 35 = .ok (.aload_n 0, 1) := by decide +kernel
theorem dX10_writeLetters_36 : decode cX10_writeLetters 36 = .ok (.getfield 26, 3) := by decide +kernel
theorem dX10_writeLetters_39 : decode cX10_writeLetters 39 = .ok (.bipush 32, 2) := by decide +kernel
theorem dX10_writeLetters_41 : decode cX10_writeLetters 41 = .ok (.invokevirtual 344, 3) := by decide +kernel
theorem dX10_writeLetters_44 : decode cX10_writeLetters 44 = .ok (.iconst 0, 1) := by decide +kernel
theorem dX10_writeLetters_45 : decode cX10_writeLetters 45 = .ok (.istore_n 3, 1) := by decide +kernel
theorem dX10_writeLetters_46 : decode cX10_writeLetters 46 = .ok (.iload_n 3, 1) := by decide +kernel
theorem dX10_writeLetters_47 : decode cX10_writeLetters 47 = .ok (.aload_n 0, 1) := by decide +kernel
theorem dX10_writeLetters_48 : decode cX10_writeLetters 48 = .ok (.getfield 66, 3) := by decide +kernel
theorem dX10_writeLetters_51 : decode cX10_writeLetters 51 = .ok (.getfield 102, 3) := by decide +kernel
theorem dX10_writeLetters_54 : decode cX10_writeLetters 54 = .ok (.getfield 139, 3) := by decide +kernel
theorem dX10_writeLetters_57 : decode cX10_writeLetters 57 = .ok (.aload_n 2, 1) := by decide +kernel
theorem dX10_writeLetters_58 : decode cX10_writeLetters 58 = .ok (.getfield 172, 3) := by decide +kernel
theorem dX10_writeLetters_61 : decode cX10_writeLetters 61 = .ok (.iaload, 1) := by decide +kernel
theorem dX10_writeLetters_62 : decode cX10_writeLetters 62 = .ok (.if_icmp .ge 33, 3) := by decide +kernel
theorem dX10_writeLetters_65 : decode cX10_writeLetters 65 = .ok (.aload_n 0, 1) := by decide +kernel
theorem dX10_writeLetters_66 : decode cX10_writeLetters 66 = .ok (.getfield 26, 3) := by decide +kernel
theorem dX10_writeLetters_69 : decode cX10_writeLetters 69 = .ok (.aload_n 0, 1) := by decide +kernel
theorem dX10_writeLetters_70 : decode cX10_writeLetters 70 = .ok (.getfield 66, 3) := by decide +kernel
theorem dX10_writeLetters_73 : decode cX10_writeLetters 73 = .ok (.getfield 102, 3) := by decide +kernel
theorem dX10_writeLetters_76 : decode cX10_writeLetters 76 = .ok (.getfield 148, 3) := by decide +kernel
theorem dX10_writeLetters_79 : decode cX10_writeLetters 79 = .ok (.aload_n 2, 1) := by decide +kernel
theorem dX10_writeLetters_80 : decode cX10_writeLetters 80 = .ok (.getfield 172, 3) := by decide +kernel
theorem dX10_writeLetters_83 : decode cX10_writeLetters 83 = .ok (.aaload, 1) := by decide +kernel
theorem dX10_writeLetters_84 : decode cX10_writeLetters 84 = .ok (.iload_n 3, 1) := by decide +kernel
theorem dX10_writeLetters_85 : decode cX10_writeLetters 85 = .ok (.baload, 1) := by decide +kernel
theorem dX10_writeLetters_86 : decode cX10_writeLetters 86 = .ok (.invokevirtual 344, 3) := by decide +kernel
theorem dX10_writeLetters_89 : decode cX10_writeLetters 89 = .ok (.iinc 3 1, 3) := by decide +kernel
theorem dX10_writeLetters_92 : decode cX10_writeLetters 92 = .ok (.goto (-46), 3) := by decide +kernel
theorem dX10_writeLetters_95 : decode cX10_writeLetters 95 = .ok (.aload_n 0, 1) := by decide +kernel
theorem dX10_writeLetters_96 : decode cX10_writeLetters 96 = .ok (.getfield 26, 3) := by decide +kernel
theorem dX10_writeLetters_99 : decode cX10_writeLetters 99 = .ok (.bipush 58, 2) := by decide +kernel
theorem dX10_writeLetters_101 : decode cX10_writeLetters 101 = .ok (.invokevirtual 344, 3) := by decide +kernel
theorem dX10_writeLetters_104 : decode cX10_writeLetters 104 = .ok (.aload_n 2, 1) := by decide +kernel
theorem dX10_writeLetters_105 : decode cX10_writeLetters 105 = .ok (.getfield 187, 3) := by decide +kernel
theorem dX10_writeLetters_108 : decode cX10_writeLetters 108 = .ok (.bipush 10, 2) := by decide +kernel
theorem dX10_writeLetters_110 : decode cX10_writeLetters 110 = .ok (.if_icmp .lt 20, 3) := by decide +kernel
theorem dX10_writeLetters_113 : decode cX10_writeLetters 113 = .ok (.aload_n 0, 1) := by decide +kernel
theorem dX10_writeLetters_114 : decode cX10_writeLetters 114 = .ok (.getfield 26, 3) := by decide +kernel
theorem dX10_writeLetters_117 : decode cX10_writeLetters 117 = .ok (.bipush 48, 2) := by decide +kernel
theorem dX10_writeLetters_119 : decode cX10_writeLetters 119 = .ok (.aload_n 2, 1) := by decide +kernel
theorem dX10_writeLetters_120 : decode cX10_writeLetters 120 = .ok (.getfield 187, 3) := by decide +kernel
theorem dX10_writeLetters_123 : decode cX10_writeLetters 123 = .ok (.bipush 10, 2) := by decide +kernel
theorem dX10_writeLetters_125 : decode cX10_writeLetters 125 = .ok (.idiv, 1) := by decide +kernel
theorem dX10_writeLetters_126 : decode cX10_writeLetters 126 = .ok (.iadd, 1) := by decide +kernel
theorem dX10_writeLetters_127 : decode cX10_writeLetters 127 = .ok (.invokevirtual 344, 3) := by decide +kernel
theorem dX10_writeLetters_130 : decode cX10_writeLetters 130 = .ok (.aload_n 0, 1) := by decide +kernel
theorem dX10_writeLetters_131 : decode cX10_writeLetters 131 = .ok (.getfield 26, 3) := by decide +kernel
theorem dX10_writeLetters_134 : decode cX10_writeLetters 134 = .ok (.bipush 48, 2) := by decide +kernel
theorem dX10_writeLetters_136 : decode cX10_writeLetters 136 = .ok (.aload_n 2, 1) := by decide +kernel
theorem dX10_writeLetters_137 : decode cX10_writeLetters 137 = .ok (.getfield 187, 3) := by decide +kernel
theorem dX10_writeLetters_140 : decode cX10_writeLetters 140 = .ok (.bipush 10, 2) := by decide +kernel
theorem dX10_writeLetters_142 : decode cX10_writeLetters 142 = .ok (.irem, 1) := by decide +kernel
theorem dX10_writeLetters_143 : decode cX10_writeLetters 143 = .ok (.iadd, 1) := by decide +kernel
theorem dX10_writeLetters_144 : decode cX10_writeLetters 144 = .ok (.invokevirtual 344, 3) := by decide +kernel
theorem dX10_writeLetters_147 : decode cX10_writeLetters 147 = .ok (.iload_n 1, 1) := by decide +kernel
theorem dX10_writeLetters_148 : decode cX10_writeLetters 148 = .ok (.aload_n 0, 1) := by decide +kernel
theorem dX10_writeLetters_149 : decode cX10_writeLetters 149 = .ok (.getfield 66, 3) := by decide +kernel
theorem dX10_writeLetters_152 : decode cX10_writeLetters 152 = .ok (.getfield 118, 3) := by decide +kernel
theorem dX10_writeLetters_155 : decode cX10_writeLetters 155 = .ok (.if_icmp .ne 15, 3) := by decide +kernel
theorem dX10_writeLetters_158 : decode cX10_writeLetters 158 = .ok (.aload_n 0, 1) := by decide +kernel
theorem dX10_writeLetters_159 : decode cX10_writeLetters 159 = .ok (.getfield 26, 3) := by decide +kernel
theorem dX10_writeLetters_162 : decode cX10_writeLetters 162 = .ok (.bipush 42, 2) := by decide +kernel
theorem dX10_writeLetters_164 : decode cX10_writeLetters 164 = .ok (.invokevirtual 344, 3) := by decide +kernel
theorem dX10_writeLetters_167 : decode cX10_writeLetters 167 = .ok (.goto 19, 3) := by decide +kernel
theorem dX10_writeLetters_170 : decode cX10_writeLetters 170 = .ok (.aload_n 2, 1) := by decide +kernel
theorem dX10_writeLetters_171 : decode cX10_writeLetters 171 = .ok (.invokevirtual 347, 3) := by decide +kernel
theorem dX10_writeLetters_174 : decode cX10_writeLetters 174 = .ok (.ifCond .eq 12, 3) := by decide +kernel
theorem dX10_writeLetters_177 : decode cX10_writeLetters 177 = .ok (.aload_n 0, 1) := by decide +kernel
theorem dX10_writeLetters_178 : decode cX10_writeLetters 178 = .ok (.getfield 26, 3) := by decide +kernel
theorem dX10_writeLetters_181 : decode cX10_writeLetters 181 = .ok (.bipush 33, 2) := by decide +kernel
theorem dX10_writeLetters_183 : decode cX10_writeLetters 183 = .ok (.invokevirtual 344, 3) := by decide +kernel
theorem dX10_writeLetters_186 : decode cX10_writeLetters 186 = .ok (.iinc 1 1, 3) := by decide +kernel
theorem dX10_writeLetters_189 : decode cX10_writeLetters 189 = .ok (.goto (-179), 3) := by decide +kernel
theorem dX10_writeLetters_192 : decode cX10_writeLetters 192 = .ok (.aload_n 0, 1) := by decide +kernel
theorem dX10_writeLetters_193 : decode cX10_writeLetters 193 = .ok (.getfield 26, 3) := by decide +kernel
theorem dX10_writeLetters_196 : decode cX10_writeLetters 196 = .ok (.getfield 343, 3) := by decide +kernel
theorem dX10_writeLetters_199 : decode cX10_writeLetters 199 = .ok (.ireturn, 1) := by decide +kernel
theorem dX10_outputByte_0 : decode cX10_outputByte 0 = .ok (.iload_n 1, 1) := by decide +kernel
theorem dX10_outputByte_1 : decode cX10_outputByte 1 = .ok (.ifCond .lt 14, 3) := by decide +kernel
theorem dX10_outputByte_4 : decode cX10_outputByte 4 = .ok (.iload_n 1, 1) := by decide +kernel
theorem dX10_outputByte_5 : decode cX10_outputByte 5 = .ok (.aload_n 0, 1) := by decide +kernel
theorem dX10_outputByte_6 : decode cX10_outputByte 6 = .ok (.getfield 26, 3) := by decide +kernel
theorem dX10_outputByte_9 : decode cX10_outputByte 9 = .ok (.getfield 343, 3) := by decide +kernel
theorem dX10_outputByte_12 : decode cX10_outputByte 12 = .ok (.if_icmp .lt 14, 3) := by decide +kernel
theorem dX10_outputByte_15 : decode cX10_outputByte 15 = .ok (.new 143, 3) := by decide +kernel
theorem dX10_outputByte_18 : decode cX10_outputByte 18 = .ok (.dup, 1) := by decide +kernel
theorem dX10_outputByte_19 : decode cX10_outputByte 19 = .ok (.ldc_w 351, 3) := by decide +kernel
theorem dX10_outputByte_22 : decode cX10_outputByte 22 = .ok (.invokespecial 147, 3) := by decide +kernel
theorem dX10_outputByte_25 : decode cX10_outputByte 25 = .ok (.athrow, 1) := by decide +kernel
theorem dX10_outputByte_26 : decode cX10_outputByte 26 = .ok (.aload_n 0, 1) := by decide +kernel
theorem dX10_outputByte_27 : decode cX10_outputByte 27 = .ok (.getfield 26, 3) := by decide +kernel
theorem dX10_outputByte_30 : decode cX10_outputByte 30 = .ok (.getfield 353, 3) := by decide +kernel
theorem dX10_outputByte_33 : decode cX10_outputByte 33 = .ok (.iload_n 1, 1) := by decide +kernel
theorem dX10_outputByte_34 : decode cX10_outputByte 34 = .ok (.baload, 1) := by decide +kernel
theorem dX10_outputByte_35 : decode cX10_outputByte 35 = .ok (.ireturn, 1) := by decide +kernel
theorem dX10_requireClerk_0 : decode cX10_requireClerk 0 = .ok (.aload_n 0, 1) := by decide +kernel
theorem dX10_requireClerk_1 : decode cX10_requireClerk 1 = .ok (.getfield 66, 3) := by decide +kernel
theorem dX10_requireClerk_4 : decode cX10_requireClerk 4 = .ok (.iload_n 1, 1) := by decide +kernel
theorem dX10_requireClerk_5 : decode cX10_requireClerk 5 = .ok (.invokevirtual 354, 3) := by decide +kernel
theorem dX10_requireClerk_8 : decode cX10_requireClerk 8 = .ok (.ifCond .ne 14, 3) := by decide +kernel
theorem dX10_requireClerk_11 : decode cX10_requireClerk 11 = .ok (.new 143, 3) := by decide +kernel
theorem dX10_requireClerk_14 : decode cX10_requireClerk 14 = .ok (.dup, 1) := by decide +kernel
theorem dX10_requireClerk_15 : decode cX10_requireClerk 15 = .ok (.ldc_w 357, 3) := by decide +kernel
theorem dX10_requireClerk_18 : decode cX10_requireClerk 18 = .ok (.invokespecial 147, 3) := by decide +kernel
theorem dX10_requireClerk_21 : decode cX10_requireClerk 21 = .ok (.athrow, 1) := by decide +kernel
theorem dX10_requireClerk_22 : decode cX10_requireClerk 22 = .ok (.return_, 1) := by decide +kernel
theorem dX10_requireLetter_0 : decode cX10_requireLetter 0 = .ok (.aload_n 0, 1) := by decide +kernel
theorem dX10_requireLetter_1 : decode cX10_requireLetter 1 = .ok (.getfield 66, 3) := by decide +kernel
theorem dX10_requireLetter_4 : decode cX10_requireLetter 4 = .ok (.iload_n 1, 1) := by decide +kernel
theorem dX10_requireLetter_5 : decode cX10_requireLetter 5 = .ok (.invokevirtual 359, 3) := by decide +kernel
theorem dX10_requireLetter_8 : decode cX10_requireLetter 8 = .ok (.ifCond .ne 14, 3) := by decide +kernel
theorem dX10_requireLetter_11 : decode cX10_requireLetter 11 = .ok (.new 143, 3) := by decide +kernel
theorem dX10_requireLetter_14 : decode cX10_requireLetter 14 = .ok (.dup, 1) := by decide +kernel
theorem dX10_requireLetter_15 : decode cX10_requireLetter 15 = .ok (.ldc_w 362, 3) := by decide +kernel
theorem dX10_requireLetter_18 : decode cX10_requireLetter 18 = .ok (.invokespecial 147, 3) := by decide +kernel
theorem dX10_requireLetter_21 : decode cX10_requireLetter 21 = .ok (.athrow, 1) := by decide +kernel
theorem dX10_requireLetter_22 : decode cX10_requireLetter 22 = .ok (.return_, 1) := by decide +kernel
theorem dX10_requireSlot_0 : decode cX10_requireSlot 0 = .ok (.iload_n 0, 1) := by decide +kernel
theorem dX10_requireSlot_1 : decode cX10_requireSlot 1 = .ok (.ifCond .lt 8, 3) := by decide +kernel
theorem dX10_requireSlot_4 : decode cX10_requireSlot 4 = .ok (.iload_n 0, 1) := by decide +kernel
theorem dX10_requireSlot_5 : decode cX10_requireSlot 5 = .ok (.iconst 2, 1) := by decide +kernel
theorem dX10_requireSlot_6 : decode cX10_requireSlot 6 = .ok (.if_icmp .lt 14, 3) := by decide +kernel
theorem dX10_requireSlot_9 : decode cX10_requireSlot 9 = .ok (.new 143, 3) := by decide +kernel
theorem dX10_requireSlot_12 : decode cX10_requireSlot 12 = .ok (.dup, 1) := by decide +kernel
theorem dX10_requireSlot_13 : decode cX10_requireSlot 13 = .ok (.ldc_w 364, 3) := by decide +kernel
theorem dX10_requireSlot_16 : decode cX10_requireSlot 16 = .ok (.invokespecial 147, 3) := by decide +kernel
theorem dX10_requireSlot_19 : decode cX10_requireSlot 19 = .ok (.athrow, 1) := by decide +kernel
theorem dX10_requireSlot_20 : decode cX10_requireSlot 20 = .ok (.return_, 1) := by decide +kernel
theorem dX10_refuse_0 : decode cX10_refuse 0 = .ok (.aload_n 0, 1) := by decide +kernel
theorem dX10_refuse_1 : decode cX10_refuse 1 = .ok (.getstatic 366, 3) := by decide +kernel
theorem dX10_refuse_4 : decode cX10_refuse 4 = .ok (.if_acmp .ne 14, 3) := by decide +kernel
theorem dX10_refuse_7 : decode cX10_refuse 7 = .ok (.new 143, 3) := by decide +kernel
theorem dX10_refuse_10 : decode cX10_refuse 10 = .ok (.dup, 1) := by decide +kernel
theorem dX10_refuse_11 : decode cX10_refuse 11 = .ok (.ldc_w 372, 3) := by decide +kernel
theorem dX10_refuse_14 : decode cX10_refuse 14 = .ok (.invokespecial 147, 3) := by decide +kernel
theorem dX10_refuse_17 : decode cX10_refuse 17 = .ok (.athrow, 1) := by decide +kernel
theorem dX10_refuse_18 : decode cX10_refuse 18 = .ok (.aload_n 0, 1) := by decide +kernel
theorem dX10_refuse_19 : decode cX10_refuse 19 = .ok (.getstatic 374, 3) := by decide +kernel
theorem dX10_refuse_22 : decode cX10_refuse 22 = .ok (.if_acmp .ne 14, 3) := by decide +kernel
theorem dX10_refuse_25 : decode cX10_refuse 25 = .ok (.new 79, 3) := by decide +kernel
theorem dX10_refuse_28 : decode cX10_refuse 28 = .ok (.dup, 1) := by decide +kernel
theorem dX10_refuse_29 : decode cX10_refuse 29 = .ok (.ldc_w 377, 3) := by decide +kernel
theorem dX10_refuse_32 : decode cX10_refuse 32 = .ok (.invokespecial 83, 3) := by decide +kernel
theorem dX10_refuse_35 : decode cX10_refuse 35 = .ok (.athrow, 1) := by decide +kernel
theorem dX10_refuse_36 : decode cX10_refuse 36 = .ok (.aload_n 0, 1) := by decide +kernel
theorem dX10_refuse_37 : decode cX10_refuse 37 = .ok (.getstatic 379, 3) := by decide +kernel
theorem dX10_refuse_40 : decode cX10_refuse 40 = .ok (.if_acmp .ne 14, 3) := by decide +kernel
theorem dX10_refuse_43 : decode cX10_refuse 43 = .ok (.new 69, 3) := by decide +kernel
theorem dX10_refuse_46 : decode cX10_refuse 46 = .ok (.dup, 1) := by decide +kernel
theorem dX10_refuse_47 : decode cX10_refuse 47 = .ok (.ldc_w 382, 3) := by decide +kernel
theorem dX10_refuse_50 : decode cX10_refuse 50 = .ok (.invokespecial 73, 3) := by decide +kernel
theorem dX10_refuse_53 : decode cX10_refuse 53 = .ok (.athrow, 1) := by decide +kernel
theorem dX10_refuse_54 : decode cX10_refuse 54 = .ok (.return_, 1) := by decide +kernel
theorem dX10_addFault_0 : decode cX10_addFault 0 = .ok (.aload_n 0, 1) := by decide +kernel
theorem dX10_addFault_1 : decode cX10_addFault 1 = .ok (.getfield 66, 3) := by decide +kernel
theorem dX10_addFault_4 : decode cX10_addFault 4 = .ok (.iload_n 1, 1) := by decide +kernel
theorem dX10_addFault_5 : decode cX10_addFault 5 = .ok (.invokevirtual 354, 3) := by decide +kernel
theorem dX10_addFault_8 : decode cX10_addFault 8 = .ok (.ifCond .ne 7, 3) := by decide +kernel
theorem dX10_addFault_11 : decode cX10_addFault 11 = .ok (.getstatic 366, 3) := by decide +kernel
theorem dX10_addFault_14 : decode cX10_addFault 14 = .ok (.areturn, 1) := by decide +kernel
theorem dX10_addFault_15 : decode cX10_addFault 15 = .ok (.iload_n 2, 1) := by decide +kernel
theorem dX10_addFault_16 : decode cX10_addFault 16 = .ok (.iconst 1, 1) := by decide +kernel
theorem dX10_addFault_17 : decode cX10_addFault 17 = .ok (.bipush 30, 2) := by decide +kernel
theorem dX10_addFault_19 : decode cX10_addFault 19 = .ok (.invokestatic 384, 3) := by decide +kernel
theorem dX10_addFault_22 : decode cX10_addFault 22 = .ok (.ifCond .ne 37, 3) := by decide +kernel
theorem dX10_addFault_25 : decode cX10_addFault 25 = .ok (.iload_n 3, 1) := by decide +kernel
theorem dX10_addFault_26 : decode cX10_addFault 26 = .ok (.iconst 0, 1) := by decide +kernel
theorem dX10_addFault_27 : decode cX10_addFault 27 = .ok (.sipush 999, 3) := by decide +kernel
theorem dX10_addFault_30 : decode cX10_addFault 30 = .ok (.invokestatic 384, 3) := by decide +kernel
theorem dX10_addFault_33 : decode cX10_addFault 33 = .ok (.ifCond .ne 26, 3) := by decide +kernel
theorem dX10_addFault_36 : decode cX10_addFault 36 = .ok (.iload 4, 2) := by decide +kernel
theorem dX10_addFault_38 : decode cX10_addFault 38 = .ok (.iconst 1, 1) := by decide +kernel
theorem dX10_addFault_39 : decode cX10_addFault 39 = .ok (.sipush 999, 3) := by decide +kernel
theorem dX10_addFault_42 : decode cX10_addFault 42 = .ok (.invokestatic 384, 3) := by decide +kernel
theorem dX10_addFault_45 : decode cX10_addFault 45 = .ok (.ifCond .ne 14, 3) := by decide +kernel
theorem dX10_addFault_48 : decode cX10_addFault 48 = .ok (.iload 5, 2) := by decide +kernel
theorem dX10_addFault_50 : decode cX10_addFault 50 = .ok (.iconst 0, 1) := by decide +kernel
theorem dX10_addFault_51 : decode cX10_addFault 51 = .ok (.bipush 9, 2) := by decide +kernel
theorem dX10_addFault_53 : decode cX10_addFault 53 = .ok (.invokestatic 384, 3) := by decide +kernel
theorem dX10_addFault_56 : decode cX10_addFault 56 = .ok (.ifCond .eq 7, 3) := by decide +kernel
theorem dX10_addFault_59 : decode cX10_addFault 59 = .ok (.getstatic 374, 3) := by decide +kernel
theorem dX10_addFault_62 : decode cX10_addFault 62 = .ok (.areturn, 1) := by decide +kernel
theorem dX10_addFault_63 : decode cX10_addFault 63 = .ok (.aload_n 0, 1) := by decide +kernel
theorem dX10_addFault_64 : decode cX10_addFault 64 = .ok (.getfield 66, 3) := by decide +kernel
theorem dX10_addFault_67 : decode cX10_addFault 67 = .ok (.getfield 93, 3) := by decide +kernel
theorem dX10_addFault_70 : decode cX10_addFault 70 = .ok (.bipush 12, 2) := by decide +kernel
theorem dX10_addFault_72 : decode cX10_addFault 72 = .ok (.if_icmp .ge 18, 3) := by decide +kernel
theorem dX10_addFault_75 : decode cX10_addFault 75 = .ok (.aload_n 0, 1) := by decide +kernel
theorem dX10_addFault_76 : decode cX10_addFault 76 = .ok (.getfield 66, 3) := by decide +kernel
theorem dX10_addFault_79 : decode cX10_addFault 79 = .ok (.getfield 109, 3) := by decide +kernel
theorem dX10_addFault_82 : decode cX10_addFault 82 = .ok (.iload_n 3, 1) := by decide +kernel
theorem dX10_addFault_83 : decode cX10_addFault 83 = .ok (.iadd, 1) := by decide +kernel
theorem dX10_addFault_84 : decode cX10_addFault 84 = .ok (.sipush 2000, 3) := by decide +kernel
theorem dX10_addFault_87 : decode cX10_addFault 87 = .ok (.if_icmp .le 7, 3) := by decide +kernel
theorem dX10_addFault_90 : decode cX10_addFault 90 = .ok (.getstatic 379, 3) := by decide +kernel
theorem dX10_addFault_93 : decode cX10_addFault 93 = .ok (.areturn, 1) := by decide +kernel
theorem dX10_addFault_94 : decode cX10_addFault 94 = .ok (.getstatic 388, 3) := by decide +kernel
theorem dX10_addFault_97 : decode cX10_addFault 97 = .ok (.areturn, 1) := by decide +kernel
theorem dX10_passFault_0 : decode cX10_passFault 0 = .ok (.iload_n 1, 1) := by decide +kernel
theorem dX10_passFault_1 : decode cX10_passFault 1 = .ok (.iconst 1, 1) := by decide +kernel
theorem dX10_passFault_2 : decode cX10_passFault 2 = .ok (.sipush 300, 3) := by decide +kernel
theorem dX10_passFault_5 : decode cX10_passFault 5 = .ok (.invokestatic 384, 3) := by decide +kernel
theorem dX10_passFault_8 : decode cX10_passFault 8 = .ok (.ifCond .eq 7, 3) := by decide +kernel
theorem dX10_passFault_11 : decode cX10_passFault 11 = .ok (.getstatic 374, 3) := by decide +kernel
theorem dX10_passFault_14 : decode cX10_passFault 14 = .ok (.areturn, 1) := by decide +kernel
theorem dX10_passFault_15 : decode cX10_passFault 15 = .ok (.aload_n 0, 1) := by decide +kernel
theorem dX10_passFault_16 : decode cX10_passFault 16 = .ok (.getfield 66, 3) := by decide +kernel
theorem dX10_passFault_19 : decode cX10_passFault 19 = .ok (.getfield 109, 3) := by decide +kernel
theorem dX10_passFault_22 : decode cX10_passFault 22 = .ok (.iload_n 1, 1) := by decide +kernel
theorem dX10_passFault_23 : decode cX10_passFault 23 = .ok (.iadd, 1) := by decide +kernel
theorem dX10_passFault_24 : decode cX10_passFault 24 = .ok (.sipush 2000, 3) := by decide +kernel
theorem dX10_passFault_27 : decode cX10_passFault 27 = .ok (.if_icmp .le 9, 3) := by decide +kernel
theorem dX10_passFault_30 : decode cX10_passFault 30 = .ok (.getstatic 379, 3) := by decide +kernel
theorem dX10_passFault_33 : decode cX10_passFault 33 = .ok (.goto 6, 3) := by decide +kernel
theorem dX10_passFault_36 : decode cX10_passFault 36 = .ok (.getstatic 388, 3) := by decide +kernel
theorem dX10_passFault_39 : decode cX10_passFault 39 = .ok (.areturn, 1) := by decide +kernel
theorem dX10_policyFault_0 : decode cX10_policyFault 0 = .ok (.iload_n 0, 1) := by decide +kernel
theorem dX10_policyFault_1 : decode cX10_policyFault 1 = .ok (.iconst 0, 1) := by decide +kernel
theorem dX10_policyFault_2 : decode cX10_policyFault 2 = .ok (.iconst 4, 1) := by decide +kernel
theorem dX10_policyFault_3 : decode cX10_policyFault 3 = .ok (.invokestatic 384, 3) := by decide +kernel
theorem dX10_policyFault_6 : decode cX10_policyFault 6 = .ok (.ifCond .eq 9, 3) := by decide +kernel
theorem dX10_policyFault_9 : decode cX10_policyFault 9 = .ok (.getstatic 374, 3) := by decide +kernel
theorem dX10_policyFault_12 : decode cX10_policyFault 12 = .ok (.goto 6, 3) := by decide +kernel
theorem dX10_policyFault_15 : decode cX10_policyFault 15 = .ok (.getstatic 388, 3) := by decide +kernel
theorem dX10_policyFault_18 : decode cX10_policyFault 18 = .ok (.areturn, 1) := by decide +kernel
theorem dX10_deadlineFault_0 : decode cX10_deadlineFault 0 = .ok (.aload_n 0, 1) := by decide +kernel
theorem dX10_deadlineFault_1 : decode cX10_deadlineFault 1 = .ok (.getfield 66, 3) := by decide +kernel
theorem dX10_deadlineFault_4 : decode cX10_deadlineFault 4 = .ok (.iload_n 1, 1) := by decide +kernel
theorem dX10_deadlineFault_5 : decode cX10_deadlineFault 5 = .ok (.invokevirtual 359, 3) := by decide +kernel
theorem dX10_deadlineFault_8 : decode cX10_deadlineFault 8 = .ok (.ifCond .ne 7, 3) := by decide +kernel
theorem dX10_deadlineFault_11 : decode cX10_deadlineFault 11 = .ok (.getstatic 366, 3) := by decide +kernel
theorem dX10_deadlineFault_14 : decode cX10_deadlineFault 14 = .ok (.areturn, 1) := by decide +kernel
theorem dX10_deadlineFault_15 : decode cX10_deadlineFault 15 = .ok (.iload_n 2, 1) := by decide +kernel
theorem dX10_deadlineFault_16 : decode cX10_deadlineFault 16 = .ok (.iconst 1, 1) := by decide +kernel
theorem dX10_deadlineFault_17 : decode cX10_deadlineFault 17 = .ok (.sipush 999, 3) := by decide +kernel
theorem dX10_deadlineFault_20 : decode cX10_deadlineFault 20 = .ok (.invokestatic 384, 3) := by decide +kernel
theorem dX10_deadlineFault_23 : decode cX10_deadlineFault 23 = .ok (.ifCond .eq 9, 3) := by decide +kernel
theorem dX10_deadlineFault_26 : decode cX10_deadlineFault 26 = .ok (.getstatic 374, 3) := by decide +kernel
theorem dX10_deadlineFault_29 : decode cX10_deadlineFault 29 = .ok (.goto 6, 3) := by decide +kernel
theorem dX10_deadlineFault_32 : decode cX10_deadlineFault 32 = .ok (.getstatic 388, 3) := by decide +kernel
theorem dX10_deadlineFault_35 : decode cX10_deadlineFault 35 = .ok (.areturn, 1) := by decide +kernel
theorem dX10_priorityFault_0 : decode cX10_priorityFault 0 = .ok (.aload_n 0, 1) := by decide +kernel
theorem dX10_priorityFault_1 : decode cX10_priorityFault 1 = .ok (.getfield 66, 3) := by decide +kernel
theorem dX10_priorityFault_4 : decode cX10_priorityFault 4 = .ok (.iload_n 1, 1) := by decide +kernel
theorem dX10_priorityFault_5 : decode cX10_priorityFault 5 = .ok (.invokevirtual 359, 3) := by decide +kernel
theorem dX10_priorityFault_8 : decode cX10_priorityFault 8 = .ok (.ifCond .ne 7, 3) := by decide +kernel
theorem dX10_priorityFault_11 : decode cX10_priorityFault 11 = .ok (.getstatic 366, 3) := by decide +kernel
theorem dX10_priorityFault_14 : decode cX10_priorityFault 14 = .ok (.areturn, 1) := by decide +kernel
theorem dX10_priorityFault_15 : decode cX10_priorityFault 15 = .ok (.iload_n 2, 1) := by decide +kernel
theorem dX10_priorityFault_16 : decode cX10_priorityFault 16 = .ok (.iconst 0, 1) := by decide +kernel
theorem dX10_priorityFault_17 : decode cX10_priorityFault 17 = .ok (.bipush 9, 2) := by decide +kernel
theorem dX10_priorityFault_19 : decode cX10_priorityFault 19 = .ok (.invokestatic 384, 3) := by decide +kernel
theorem dX10_priorityFault_22 : decode cX10_priorityFault 22 = .ok (.ifCond .eq 9, 3) := by decide +kernel
theorem dX10_priorityFault_25 : decode cX10_priorityFault 25 = .ok (.getstatic 374, 3) := by decide +kernel
theorem dX10_priorityFault_28 : decode cX10_priorityFault 28 = .ok (.goto 6, 3) := by decide +kernel
theorem dX10_priorityFault_31 : decode cX10_priorityFault 31 = .ok (.getstatic 388, 3) := by decide +kernel
theorem dX10_priorityFault_34 : decode cX10_priorityFault 34 = .ok (.areturn, 1) := by decide +kernel
theorem dX10_extendFault_0 : decode cX10_extendFault 0 = .ok (.aload_n 0, 1) := by decide +kernel
theorem dX10_extendFault_1 : decode cX10_extendFault 1 = .ok (.getfield 66, 3) := by decide +kernel
theorem dX10_extendFault_4 : decode cX10_extendFault 4 = .ok (.iload_n 1, 1) := by decide +kernel
theorem dX10_extendFault_5 : decode cX10_extendFault 5 = .ok (.invokevirtual 359, 3) := by decide +kernel
theorem dX10_extendFault_8 : decode cX10_extendFault 8 = .ok (.ifCond .ne 7, 3) := by decide +kernel
theorem dX10_extendFault_11 : decode cX10_extendFault 11 = .ok (.getstatic 366, 3) := by decide +kernel
theorem dX10_extendFault_14 : decode cX10_extendFault 14 = .ok (.areturn, 1) := by decide +kernel
theorem dX10_extendFault_15 : decode cX10_extendFault 15 = .ok (.iload_n 2, 1) := by decide +kernel
theorem dX10_extendFault_16 : decode cX10_extendFault 16 = .ok (.iconst 1, 1) := by decide +kernel
theorem dX10_extendFault_17 : decode cX10_extendFault 17 = .ok (.bipush 29, 2) := by decide +kernel
theorem dX10_extendFault_19 : decode cX10_extendFault 19 = .ok (.invokestatic 384, 3) := by decide +kernel
theorem dX10_extendFault_22 : decode cX10_extendFault 22 = .ok (.ifCond .eq 7, 3) := by decide +kernel
theorem dX10_extendFault_25 : decode cX10_extendFault 25 = .ok (.getstatic 374, 3) := by decide +kernel
theorem dX10_extendFault_28 : decode cX10_extendFault 28 = .ok (.areturn, 1) := by decide +kernel
theorem dX10_extendFault_29 : decode cX10_extendFault 29 = .ok (.aload_n 0, 1) := by decide +kernel
theorem dX10_extendFault_30 : decode cX10_extendFault 30 = .ok (.getfield 66, 3) := by decide +kernel
theorem dX10_extendFault_33 : decode cX10_extendFault 33 = .ok (.getfield 168, 3) := by decide +kernel
theorem dX10_extendFault_36 : decode cX10_extendFault 36 = .ok (.iload_n 1, 1) := by decide +kernel
theorem dX10_extendFault_37 : decode cX10_extendFault 37 = .ok (.aaload, 1) := by decide +kernel
theorem dX10_extendFault_38 : decode cX10_extendFault 38 = .ok (.astore_n 3, 1) := by decide +kernel
theorem dX10_extendFault_39 : decode cX10_extendFault 39 = .ok (.aload_n 3, 1) := by decide +kernel
theorem dX10_extendFault_40 : decode cX10_extendFault 40 = .ok (.getfield 187, 3) := by decide +kernel
theorem dX10_extendFault_43 : decode cX10_extendFault 43 = .ok (.ifCond .eq 14, 3) := by decide +kernel
theorem dX10_extendFault_46 : decode cX10_extendFault 46 = .ok (.aload_n 3, 1) := by decide +kernel
theorem dX10_extendFault_47 : decode cX10_extendFault 47 = .ok (.getfield 177, 3) := by decide +kernel
theorem dX10_extendFault_50 : decode cX10_extendFault 50 = .ok (.iload_n 2, 1) := by decide +kernel
theorem dX10_extendFault_51 : decode cX10_extendFault 51 = .ok (.iadd, 1) := by decide +kernel
theorem dX10_extendFault_52 : decode cX10_extendFault 52 = .ok (.bipush 30, 2) := by decide +kernel
theorem dX10_extendFault_54 : decode cX10_extendFault 54 = .ok (.if_icmp .le 7, 3) := by decide +kernel
theorem dX10_extendFault_57 : decode cX10_extendFault 57 = .ok (.getstatic 379, 3) := by decide +kernel
theorem dX10_extendFault_60 : decode cX10_extendFault 60 = .ok (.areturn, 1) := by decide +kernel
theorem dX10_extendFault_61 : decode cX10_extendFault 61 = .ok (.getstatic 388, 3) := by decide +kernel
theorem dX10_extendFault_64 : decode cX10_extendFault 64 = .ok (.areturn, 1) := by decide +kernel
theorem dX10_discardFault_0 : decode cX10_discardFault 0 = .ok (.aload_n 0, 1) := by decide +kernel
theorem dX10_discardFault_1 : decode cX10_discardFault 1 = .ok (.getfield 66, 3) := by decide +kernel
theorem dX10_discardFault_4 : decode cX10_discardFault 4 = .ok (.iload_n 1, 1) := by decide +kernel
theorem dX10_discardFault_5 : decode cX10_discardFault 5 = .ok (.invokevirtual 359, 3) := by decide +kernel
theorem dX10_discardFault_8 : decode cX10_discardFault 8 = .ok (.ifCond .ne 7, 3) := by decide +kernel
theorem dX10_discardFault_11 : decode cX10_discardFault 11 = .ok (.getstatic 366, 3) := by decide +kernel
theorem dX10_discardFault_14 : decode cX10_discardFault 14 = .ok (.areturn, 1) := by decide +kernel
theorem dX10_discardFault_15 : decode cX10_discardFault 15 = .ok (.aload_n 0, 1) := by decide +kernel
theorem dX10_discardFault_16 : decode cX10_discardFault 16 = .ok (.getfield 66, 3) := by decide +kernel
theorem dX10_discardFault_19 : decode cX10_discardFault 19 = .ok (.getfield 168, 3) := by decide +kernel
theorem dX10_discardFault_22 : decode cX10_discardFault 22 = .ok (.iload_n 1, 1) := by decide +kernel
theorem dX10_discardFault_23 : decode cX10_discardFault 23 = .ok (.aaload, 1) := by decide +kernel
theorem dX10_discardFault_24 : decode cX10_discardFault 24 = .ok (.aload_n 0, 1) := by decide +kernel
theorem dX10_discardFault_25 : decode cX10_discardFault 25 = .ok (.getfield 66, 3) := by decide +kernel
theorem dX10_discardFault_28 : decode cX10_discardFault 28 = .ok (.getfield 109, 3) := by decide +kernel
theorem dX10_discardFault_31 : decode cX10_discardFault 31 = .ok (.invokevirtual 207, 3) := by decide +kernel
theorem dX10_discardFault_34 : decode cX10_discardFault 34 = .ok (.ifCond .eq 9, 3) := by decide +kernel
theorem dX10_discardFault_37 : decode cX10_discardFault 37 = .ok (.getstatic 388, 3) := by decide +kernel
theorem dX10_discardFault_40 : decode cX10_discardFault 40 = .ok (.goto 6, 3) := by decide +kernel
theorem dX10_discardFault_43 : decode cX10_discardFault 43 = .ok (.getstatic 379, 3) := by decide +kernel
theorem dX10_discardFault_46 : decode cX10_discardFault 46 = .ok (.areturn, 1) := by decide +kernel
theorem dX10_outside_0 : decode cX10_outside 0 = .ok (.iload_n 0, 1) := by decide +kernel
theorem dX10_outside_1 : decode cX10_outside 1 = .ok (.iload_n 1, 1) := by decide +kernel
theorem dX10_outside_2 : decode cX10_outside 2 = .ok (.if_icmp .lt 8, 3) := by decide +kernel
theorem dX10_outside_5 : decode cX10_outside 5 = .ok (.iload_n 0, 1) := by decide +kernel
theorem dX10_outside_6 : decode cX10_outside 6 = .ok (.iload_n 2, 1) := by decide +kernel
theorem dX10_outside_7 : decode cX10_outside 7 = .ok (.if_icmp .le 7, 3) := by decide +kernel
theorem dX10_outside_10 : decode cX10_outside 10 = .ok (.iconst 1, 1) := by decide +kernel
theorem dX10_outside_11 : decode cX10_outside 11 = .ok (.goto 4, 3) := by decide +kernel
theorem dX10_outside_14 : decode cX10_outside 14 = .ok (.iconst 0, 1) := by decide +kernel
theorem dX10_outside_15 : decode cX10_outside 15 = .ok (.ireturn, 1) := by decide +kernel
theorem dX10_runSpareWith_0 : decode cX10_runSpareWith 0 = .ok (.aload_n 0, 1) := by decide +kernel
theorem dX10_runSpareWith_1 : decode cX10_runSpareWith 1 = .ok (.getfield 10, 3) := by decide +kernel
theorem dX10_runSpareWith_4 : decode cX10_runSpareWith 4 = .ok (.aload_n 0, 1) := by decide +kernel
theorem dX10_runSpareWith_5 : decode cX10_runSpareWith 5 = .ok (.getfield 66, 3) := by decide +kernel
theorem dX10_runSpareWith_8 : decode cX10_runSpareWith 8 = .ok (.invokevirtual 86, 3) := by decide +kernel
theorem dX10_runSpareWith_11 : decode cX10_runSpareWith 11 = .ok (.aload_n 0, 1) := by decide +kernel
theorem dX10_runSpareWith_12 : decode cX10_runSpareWith 12 = .ok (.getfield 10, 3) := by decide +kernel
theorem dX10_runSpareWith_15 : decode cX10_runSpareWith 15 = .ok (.iload_n 1, 1) := by decide +kernel
theorem dX10_runSpareWith_16 : decode cX10_runSpareWith 16 = .ok (.putfield 112, 3) := by decide +kernel
theorem dX10_runSpareWith_19 : decode cX10_runSpareWith 19 = .ok (.aload_n 0, 1) := by decide +kernel
theorem dX10_runSpareWith_20 : decode cX10_runSpareWith 20 = .ok (.getfield 10, 3) := by decide +kernel
theorem dX10_runSpareWith_23 : decode cX10_runSpareWith 23 = .ok (.invokevirtual 232, 3) := by decide +kernel
theorem dX10_runSpareWith_26 : decode cX10_runSpareWith 26 = .ok (.istore_n 2, 1) := by decide +kernel
theorem dX10_runSpareWith_27 : decode cX10_runSpareWith 27 = .ok (.iconst 0, 1) := by decide +kernel
theorem dX10_runSpareWith_28 : decode cX10_runSpareWith 28 = .ok (.istore_n 3, 1) := by decide +kernel
theorem dX10_runSpareWith_29 : decode cX10_runSpareWith 29 = .ok (.iload_n 3, 1) := by decide +kernel
theorem dX10_runSpareWith_30 : decode cX10_runSpareWith 30 = .ok (.sipush 1500, 3) := by decide +kernel
theorem dX10_runSpareWith_33 : decode cX10_runSpareWith 33 = .ok (.if_icmp .ge 24, 3) := by decide +kernel
theorem dX10_runSpareWith_36 : decode cX10_runSpareWith 36 = .ok (.iload_n 2, 1) := by decide +kernel
theorem dX10_runSpareWith_37 : decode cX10_runSpareWith 37 = .ok (.ifCond .le 20, 3) := by decide +kernel
theorem dX10_runSpareWith_40 : decode cX10_runSpareWith 40 = .ok (.iload_n 2, 1) := by decide +kernel
theorem dX10_runSpareWith_41 : decode cX10_runSpareWith 41 = .ok (.aload_n 0, 1) := by decide +kernel
theorem dX10_runSpareWith_42 : decode cX10_runSpareWith 42 = .ok (.getfield 10, 3) := by decide +kernel
theorem dX10_runSpareWith_45 : decode cX10_runSpareWith 45 = .ok (.iconst 1, 1) := by decide +kernel
theorem dX10_runSpareWith_46 : decode cX10_runSpareWith 46 = .ok (.invokevirtual 264, 3) := by decide +kernel
theorem dX10_runSpareWith_49 : decode cX10_runSpareWith 49 = .ok (.isub, 1) := by decide +kernel
theorem dX10_runSpareWith_50 : decode cX10_runSpareWith 50 = .ok (.istore_n 2, 1) := by decide +kernel
theorem dX10_runSpareWith_51 : decode cX10_runSpareWith 51 = .ok (.iinc 3 1, 3) := by decide +kernel
theorem dX10_runSpareWith_54 : decode cX10_runSpareWith 54 = .ok (.goto (-25), 3) := by decide +kernel
theorem dX10_runSpareWith_57 : decode cX10_runSpareWith 57 = .ok (.return_, 1) := by decide +kernel
theorem dX10_indexOfGreatest_0 : decode cX10_indexOfGreatest 0 = .ok (.iconst 0, 1) := by decide +kernel
theorem dX10_indexOfGreatest_1 : decode cX10_indexOfGreatest 1 = .ok (.istore_n 2, 1) := by decide +kernel
theorem dX10_indexOfGreatest_2 : decode cX10_indexOfGreatest 2 = .ok (.iconst 1, 1) := by decide +kernel
theorem dX10_indexOfGreatest_3 : decode cX10_indexOfGreatest 3 = .ok (.istore_n 3, 1) := by decide +kernel
theorem dX10_indexOfGreatest_4 : decode cX10_indexOfGreatest 4 = .ok (.iload_n 3, 1) := by decide +kernel
theorem dX10_indexOfGreatest_5 : decode cX10_indexOfGreatest 5 = .ok (.iload_n 1, 1) := by decide +kernel
theorem dX10_indexOfGreatest_6 : decode cX10_indexOfGreatest 6 = .ok (.if_icmp .ge 20, 3) := by decide +kernel
theorem dX10_indexOfGreatest_9 : decode cX10_indexOfGreatest 9 = .ok (.aload_n 0, 1) := by decide +kernel
theorem dX10_indexOfGreatest_10 : decode cX10_indexOfGreatest 10 = .ok (.iload_n 3, 1) := by decide +kernel
theorem dX10_indexOfGreatest_11 : decode cX10_indexOfGreatest 11 = .ok (.iaload, 1) := by decide +kernel
theorem dX10_indexOfGreatest_12 : decode cX10_indexOfGreatest 12 = .ok (.aload_n 0, 1) := by decide +kernel
theorem dX10_indexOfGreatest_13 : decode cX10_indexOfGreatest 13 = .ok (.iload_n 2, 1) := by decide +kernel
theorem dX10_indexOfGreatest_14 : decode cX10_indexOfGreatest 14 = .ok (.iaload, 1) := by decide +kernel
theorem dX10_indexOfGreatest_15 : decode cX10_indexOfGreatest 15 = .ok (.if_icmp .le 5, 3) := by decide +kernel
theorem dX10_indexOfGreatest_18 : decode cX10_indexOfGreatest 18 = .ok (.iload_n 3, 1) := by decide +kernel
theorem dX10_indexOfGreatest_19 : decode cX10_indexOfGreatest 19 = .ok (.istore_n 2, 1) := by decide +kernel
theorem dX10_indexOfGreatest_20 : decode cX10_indexOfGreatest 20 = .ok (.iinc 3 1, 3) := by decide +kernel
theorem dX10_indexOfGreatest_23 : decode cX10_indexOfGreatest 23 = .ok (.goto (-19), 3) := by decide +kernel
theorem dX10_indexOfGreatest_26 : decode cX10_indexOfGreatest 26 = .ok (.iload_n 2, 1) := by decide +kernel
theorem dX10_indexOfGreatest_27 : decode cX10_indexOfGreatest 27 = .ok (.ireturn, 1) := by decide +kernel
theorem dX10_execute_0 : decode cX10_execute 0 = .ok (.aload_n 1, 1) := by decide +kernel
theorem dX10_execute_1 : decode cX10_execute 1 = .ok (.getfield 391, 3) := by decide +kernel
theorem dX10_execute_4 : decode cX10_execute 4 = .ok (.iconst 0, 1) := by decide +kernel
theorem dX10_execute_5 : decode cX10_execute 5 = .ok (.iaload, 1) := by decide +kernel
theorem dX10_execute_6 : decode cX10_execute 6 = .ok (.istore_n 2, 1) := by decide +kernel
theorem dX10_execute_7 : decode cX10_execute 7 = .ok (.aload_n 1, 1) := by decide +kernel
theorem dX10_execute_8 : decode cX10_execute 8 = .ok (.getfield 391, 3) := by decide +kernel
theorem dX10_execute_11 : decode cX10_execute 11 = .ok (.iconst 1, 1) := by decide +kernel
theorem dX10_execute_12 : decode cX10_execute 12 = .ok (.iaload, 1) := by decide +kernel
theorem dX10_execute_13 : decode cX10_execute 13 = .ok (.istore_n 3, 1) := by decide +kernel
theorem dX10_execute_14 : decode cX10_execute 14 = .ok (.aload_n 1, 1) := by decide +kernel
theorem dX10_execute_15 : decode cX10_execute 15 = .ok (.getfield 391, 3) := by decide +kernel
theorem dX10_execute_18 : decode cX10_execute 18 = .ok (.iconst 2, 1) := by decide +kernel
theorem dX10_execute_19 : decode cX10_execute 19 = .ok (.iaload, 1) := by decide +kernel
theorem dX10_execute_20 : decode cX10_execute 20 = .ok (.istore 4, 2) := by decide +kernel
theorem dX10_execute_22 : decode cX10_execute 22 = .ok (.aload_n 1, 1) := by decide +kernel
theorem dX10_execute_23 : decode cX10_execute 23 = .ok (.getfield 391, 3) := by decide +kernel
theorem dX10_execute_26 : decode cX10_execute 26 = .ok (.iconst 3, 1) := by decide +kernel
theorem dX10_execute_27 : decode cX10_execute 27 = .ok (.iaload, 1) := by decide +kernel
theorem dX10_execute_28 : decode cX10_execute 28 = .ok (.istore 5, 2) := by decide +kernel
theorem dX10_execute_30 : decode cX10_execute 30 = .ok (.aload_n 1, 1) := by decide +kernel
theorem dX10_execute_31 : decode cX10_execute 31 = .ok (.getfield 396, 3) := by decide +kernel
theorem dX10_execute_34 : decode cX10_execute 34 = .ok (.tableswitch 216 0 5 #[38, 88, 112, 134, 163, 192], 38) := by decide +kernel
theorem dX10_execute_72 : decode cX10_execute 72 = .ok (.aload_n 0, 1) := by decide +kernel
theorem dX10_execute_73 : decode cX10_execute 73 = .ok (.aload_n 1, 1) := by decide +kernel
theorem dX10_execute_74 : decode cX10_execute 74 = .ok (.getfield 399, 3) := by decide +kernel
theorem dX10_execute_77 : decode cX10_execute 77 = .ok (.iload_n 2, 1) := by decide +kernel
theorem dX10_execute_78 : decode cX10_execute 78 = .ok (.iload_n 3, 1) := by decide +kernel
theorem dX10_execute_79 : decode cX10_execute 79 = .ok (.iload 4, 2) := by decide +kernel
theorem dX10_execute_81 : decode cX10_execute 81 = .ok (.iload 5, 2) := by decide +kernel
theorem dX10_execute_83 : decode cX10_execute 83 = .ok (.invokevirtual 288, 3) := by decide +kernel
theorem dX10_execute_86 : decode cX10_execute 86 = .ok (.getstatic 388, 3) := by decide +kernel
theorem dX10_execute_89 : decode cX10_execute 89 = .ok (.if_acmp .eq 5, 3) := by decide +kernel
theorem dX10_execute_92 : decode cX10_execute 92 = .ok (.iconst 0, 1) := by decide +kernel
theorem dX10_execute_93 : decode cX10_execute 93 = .ok (.ireturn, 1) := by decide +kernel
theorem dX10_execute_94 : decode cX10_execute 94 = .ok (.aload_n 0, 1) := by decide +kernel
theorem dX10_execute_95 : decode cX10_execute 95 = .ok (.getfield 66, 3) := by decide +kernel
theorem dX10_execute_98 : decode cX10_execute 98 = .ok (.aload_n 1, 1) := by decide +kernel
theorem dX10_execute_99 : decode cX10_execute 99 = .ok (.getfield 399, 3) := by decide +kernel
theorem dX10_execute_102 : decode cX10_execute 102 = .ok (.iload_n 2, 1) := by decide +kernel
theorem dX10_execute_103 : decode cX10_execute 103 = .ok (.aload_n 0, 1) := by decide +kernel
theorem dX10_execute_104 : decode cX10_execute 104 = .ok (.getfield 66, 3) := by decide +kernel
theorem dX10_execute_107 : decode cX10_execute 107 = .ok (.getfield 109, 3) := by decide +kernel
theorem dX10_execute_110 : decode cX10_execute 110 = .ok (.iload_n 3, 1) := by decide +kernel
theorem dX10_execute_111 : decode cX10_execute 111 = .ok (.iadd, 1) := by decide +kernel
theorem dX10_execute_112 : decode cX10_execute 112 = .ok (.iload 4, 2) := by decide +kernel
theorem dX10_execute_114 : decode cX10_execute 114 = .ok (.iload 5, 2) := by decide +kernel
theorem dX10_execute_116 : decode cX10_execute 116 = .ok (.invokevirtual 295, 3) := by decide +kernel
theorem dX10_execute_119 : decode cX10_execute 119 = .ok (.pop, 1) := by decide +kernel
theorem dX10_execute_120 : decode cX10_execute 120 = .ok (.iconst 1, 1) := by decide +kernel
theorem dX10_execute_121 : decode cX10_execute 121 = .ok (.ireturn, 1) := by decide +kernel
theorem dX10_execute_122 : decode cX10_execute 122 = .ok (.aload_n 0, 1) := by decide +kernel
theorem dX10_execute_123 : decode cX10_execute 123 = .ok (.iload_n 2, 1) := by decide +kernel
theorem dX10_execute_124 : decode cX10_execute 124 = .ok (.invokevirtual 299, 3) := by decide +kernel
theorem dX10_execute_127 : decode cX10_execute 127 = .ok (.getstatic 388, 3) := by decide +kernel
theorem dX10_execute_130 : decode cX10_execute 130 = .ok (.if_acmp .eq 5, 3) := by decide +kernel
theorem dX10_execute_133 : decode cX10_execute 133 = .ok (.iconst 0, 1) := by decide +kernel
theorem dX10_execute_134 : decode cX10_execute 134 = .ok (.ireturn, 1) := by decide +kernel
theorem dX10_execute_135 : decode cX10_execute 135 = .ok (.aload_n 0, 1) := by decide +kernel
theorem dX10_execute_136 : decode cX10_execute 136 = .ok (.getfield 66, 3) := by decide +kernel
theorem dX10_execute_139 : decode cX10_execute 139 = .ok (.iload_n 2, 1) := by decide +kernel
theorem dX10_execute_140 : decode cX10_execute 140 = .ok (.invokevirtual 264, 3) := by decide +kernel
theorem dX10_execute_143 : decode cX10_execute 143 = .ok (.pop, 1) := by decide +kernel
theorem dX10_execute_144 : decode cX10_execute 144 = .ok (.iconst 1, 1) := by decide +kernel
theorem dX10_execute_145 : decode cX10_execute 145 = .ok (.ireturn, 1) := by decide +kernel
theorem dX10_execute_146 : decode cX10_execute 146 = .ok (.iload_n 2, 1) := by decide +kernel
theorem dX10_execute_147 : decode cX10_execute 147 = .ok (.invokestatic 218, 3) := by decide +kernel
theorem dX10_execute_150 : decode cX10_execute 150 = .ok (.getstatic 388, 3) := by decide +kernel
theorem dX10_execute_153 : decode cX10_execute 153 = .ok (.if_acmp .eq 5, 3) := by decide +kernel
theorem dX10_execute_156 : decode cX10_execute 156 = .ok (.iconst 0, 1) := by decide +kernel
theorem dX10_execute_157 : decode cX10_execute 157 = .ok (.ireturn, 1) := by decide +kernel
theorem dX10_execute_158 : decode cX10_execute 158 = .ok (.aload_n 0, 1) := by decide +kernel
theorem dX10_execute_159 : decode cX10_execute 159 = .ok (.getfield 66, 3) := by decide +kernel
theorem dX10_execute_162 : decode cX10_execute 162 = .ok (.iload_n 2, 1) := by decide +kernel
theorem dX10_execute_163 : decode cX10_execute 163 = .ok (.putfield 112, 3) := by decide +kernel
theorem dX10_execute_166 : decode cX10_execute 166 = .ok (.iconst 1, 1) := by decide +kernel
theorem dX10_execute_167 : decode cX10_execute 167 = .ok (.ireturn, 1) := by decide +kernel
theorem dX10_execute_168 : decode cX10_execute 168 = .ok (.aload_n 0, 1) := by decide +kernel
theorem dX10_execute_169 : decode cX10_execute 169 = .ok (.iload_n 2, 1) := by decide +kernel
theorem dX10_execute_170 : decode cX10_execute 170 = .ok (.iload_n 3, 1) := by decide +kernel
theorem dX10_execute_171 : decode cX10_execute 171 = .ok (.invokevirtual 302, 3) := by decide +kernel
theorem dX10_execute_174 : decode cX10_execute 174 = .ok (.getstatic 388, 3) := by decide +kernel
theorem dX10_execute_177 : decode cX10_execute 177 = .ok (.if_acmp .eq 5, 3) := by decide +kernel
theorem dX10_execute_180 : decode cX10_execute 180 = .ok (.iconst 0, 1) := by decide +kernel
theorem dX10_execute_181 : decode cX10_execute 181 = .ok (.ireturn, 1) := by decide +kernel
theorem dX10_execute_182 : decode cX10_execute 182 = .ok (.aload_n 0, 1) := by decide +kernel
theorem dX10_execute_183 : decode cX10_execute 183 = .ok (.getfield 66, 3) := by decide +kernel
theorem dX10_execute_186 : decode cX10_execute 186 = .ok (.getfield 168, 3) := by decide +kernel
theorem dX10_execute_189 : decode cX10_execute 189 = .ok (.iload_n 2, 1) := by decide +kernel
theorem dX10_execute_190 : decode cX10_execute 190 = .ok (.aaload, 1) := by decide +kernel
theorem dX10_execute_191 : decode cX10_execute 191 = .ok (.iload_n 3, 1) := by decide +kernel
theorem dX10_execute_192 : decode cX10_execute 192 = .ok (.putfield 181, 3) := by decide +kernel
theorem dX10_execute_195 : decode cX10_execute 195 = .ok (.iconst 1, 1) := by decide +kernel
theorem dX10_execute_196 : decode cX10_execute 196 = .ok (.ireturn, 1) := by decide +kernel
theorem dX10_execute_197 : decode cX10_execute 197 = .ok (.aload_n 0, 1) := by decide +kernel
theorem dX10_execute_198 : decode cX10_execute 198 = .ok (.iload_n 2, 1) := by decide +kernel
theorem dX10_execute_199 : decode cX10_execute 199 = .ok (.iload_n 3, 1) := by decide +kernel
theorem dX10_execute_200 : decode cX10_execute 200 = .ok (.invokevirtual 306, 3) := by decide +kernel
theorem dX10_execute_203 : decode cX10_execute 203 = .ok (.getstatic 388, 3) := by decide +kernel
theorem dX10_execute_206 : decode cX10_execute 206 = .ok (.if_acmp .eq 5, 3) := by decide +kernel
theorem dX10_execute_209 : decode cX10_execute 209 = .ok (.iconst 0, 1) := by decide +kernel
theorem dX10_execute_210 : decode cX10_execute 210 = .ok (.ireturn, 1) := by decide +kernel
theorem dX10_execute_211 : decode cX10_execute 211 = .ok (.aload_n 0, 1) := by decide +kernel
theorem dX10_execute_212 : decode cX10_execute 212 = .ok (.getfield 66, 3) := by decide +kernel
theorem dX10_execute_215 : decode cX10_execute 215 = .ok (.getfield 168, 3) := by decide +kernel
theorem dX10_execute_218 : decode cX10_execute 218 = .ok (.iload_n 2, 1) := by decide +kernel
theorem dX10_execute_219 : decode cX10_execute 219 = .ok (.aaload, 1) := by decide +kernel
theorem dX10_execute_220 : decode cX10_execute 220 = .ok (.iload_n 3, 1) := by decide +kernel
theorem dX10_execute_221 : decode cX10_execute 221 = .ok (.putfield 184, 3) := by decide +kernel
theorem dX10_execute_224 : decode cX10_execute 224 = .ok (.iconst 1, 1) := by decide +kernel
theorem dX10_execute_225 : decode cX10_execute 225 = .ok (.ireturn, 1) := by decide +kernel
theorem dX10_execute_226 : decode cX10_execute 226 = .ok (.aload_n 0, 1) := by decide +kernel
theorem dX10_execute_227 : decode cX10_execute 227 = .ok (.iload_n 2, 1) := by decide +kernel
theorem dX10_execute_228 : decode cX10_execute 228 = .ok (.invokevirtual 312, 3) := by decide +kernel
theorem dX10_execute_231 : decode cX10_execute 231 = .ok (.getstatic 388, 3) := by decide +kernel
theorem dX10_execute_234 : decode cX10_execute 234 = .ok (.if_acmp .eq 5, 3) := by decide +kernel
theorem dX10_execute_237 : decode cX10_execute 237 = .ok (.iconst 0, 1) := by decide +kernel
theorem dX10_execute_238 : decode cX10_execute 238 = .ok (.ireturn, 1) := by decide +kernel
theorem dX10_execute_239 : decode cX10_execute 239 = .ok (.aload_n 0, 1) := by decide +kernel
theorem dX10_execute_240 : decode cX10_execute 240 = .ok (.getfield 66, 3) := by decide +kernel
theorem dX10_execute_243 : decode cX10_execute 243 = .ok (.iload_n 2, 1) := by decide +kernel
theorem dX10_execute_244 : decode cX10_execute 244 = .ok (.invokevirtual 315, 3) := by decide +kernel
theorem dX10_execute_247 : decode cX10_execute 247 = .ok (.pop, 1) := by decide +kernel
theorem dX10_execute_248 : decode cX10_execute 248 = .ok (.iconst 1, 1) := by decide +kernel
theorem dX10_execute_249 : decode cX10_execute 249 = .ok (.ireturn, 1) := by decide +kernel
theorem dX10_execute_250 : decode cX10_execute 250 = .ok (.iconst 0, 1) := by decide +kernel
theorem dX10_execute_251 : decode cX10_execute 251 = .ok (.ireturn, 1) := by decide +kernel
theorem dX10_readSetup_0 : decode cX10_readSetup 0 = .ok (.aload_n 0, 1) := by decide +kernel
theorem dX10_readSetup_1 : decode cX10_readSetup 1 = .ok (.invokevirtual 400, 3) := by decide +kernel
theorem dX10_readSetup_4 : decode cX10_readSetup 4 = .ok (.aload_n 0, 1) := by decide +kernel
theorem dX10_readSetup_5 : decode cX10_readSetup 5 = .ok (.aload_n 1, 1) := by decide +kernel
theorem dX10_readSetup_6 : decode cX10_readSetup 6 = .ok (.invokestatic 403, 3) := by decide +kernel
theorem dX10_readSetup_9 : decode cX10_readSetup 9 = .ok (.ifCond .eq 14, 3) := by decide +kernel
theorem dX10_readSetup_12 : decode cX10_readSetup 12 = .ok (.aload_n 0, 1) := by decide +kernel
theorem dX10_readSetup_13 : decode cX10_readSetup 13 = .ok (.aload_n 1, 1) := by decide +kernel
theorem dX10_readSetup_14 : decode cX10_readSetup 14 = .ok (.getfield 102, 3) := by decide +kernel
theorem dX10_readSetup_17 : decode cX10_readSetup 17 = .ok (.invokestatic 406, 3) := by decide +kernel
theorem dX10_readSetup_20 : decode cX10_readSetup 20 = .ok (.ifCond .ne 5, 3) := by decide +kernel
theorem dX10_readSetup_23 : decode cX10_readSetup 23 = .ok (.iconst 0, 1) := by decide +kernel
theorem dX10_readSetup_24 : decode cX10_readSetup 24 = .ok (.ireturn, 1) := by decide +kernel
theorem dX10_readSetup_25 : decode cX10_readSetup 25 = .ok (.aload_n 1, 1) := by decide +kernel
theorem dX10_readSetup_26 : decode cX10_readSetup 26 = .ok (.invokevirtual 409, 3) := by decide +kernel
theorem dX10_readSetup_29 : decode cX10_readSetup 29 = .ok (.aload_n 0, 1) := by decide +kernel
theorem dX10_readSetup_30 : decode cX10_readSetup 30 = .ok (.aload_n 1, 1) := by decide +kernel
theorem dX10_readSetup_31 : decode cX10_readSetup 31 = .ok (.invokestatic 410, 3) := by decide +kernel
theorem dX10_readSetup_34 : decode cX10_readSetup 34 = .ok (.ireturn, 1) := by decide +kernel
theorem dX10_readSettings_0 : decode cX10_readSettings 0 = .ok (.aload_n 0, 1) := by decide +kernel
theorem dX10_readSettings_1 : decode cX10_readSettings 1 = .ok (.ldc_w 413, 3) := by decide +kernel
theorem dX10_readSettings_4 : decode cX10_readSettings 4 = .ok (.invokevirtual 415, 3) := by decide +kernel
theorem dX10_readSettings_7 : decode cX10_readSettings 7 = .ok (.ifCond .eq 16, 3) := by decide +kernel
theorem dX10_readSettings_10 : decode cX10_readSettings 10 = .ok (.aload_n 0, 1) := by decide +kernel
theorem dX10_readSettings_11 : decode cX10_readSettings 11 = .ok (.getstatic 419, 3) := by decide +kernel
theorem dX10_readSettings_14 : decode cX10_readSettings 14 = .ok (.getstatic 422, 3) := by decide +kernel
theorem dX10_readSettings_17 : decode cX10_readSettings 17 = .ok (.invokevirtual 425, 3) := by decide +kernel
theorem dX10_readSettings_20 : decode cX10_readSettings 20 = .ok (.ifCond .ne 5, 3) := by decide +kernel
theorem dX10_readSettings_23 : decode cX10_readSettings 23 = .ok (.iconst 0, 1) := by decide +kernel
theorem dX10_readSettings_24 : decode cX10_readSettings 24 = .ok (.ireturn, 1) := by decide +kernel
theorem dX10_readSettings_25 : decode cX10_readSettings 25 = .ok (.aload_n 1, 1) := by decide +kernel
theorem dX10_readSettings_26 : decode cX10_readSettings 26 = .ok (.aload_n 0, 1) := by decide +kernel
theorem dX10_readSettings_27 : decode cX10_readSettings 27 = .ok (.getfield 429, 3) := by decide +kernel
theorem dX10_readSettings_30 : decode cX10_readSettings 30 = .ok (.iconst 0, 1) := by decide +kernel
theorem dX10_readSettings_31 : decode cX10_readSettings 31 = .ok (.iaload, 1) := by decide +kernel
theorem dX10_readSettings_32 : decode cX10_readSettings 32 = .ok (.putfield 112, 3) := by decide +kernel
theorem dX10_readSettings_35 : decode cX10_readSettings 35 = .ok (.aload_n 1, 1) := by decide +kernel
theorem dX10_readSettings_36 : decode cX10_readSettings 36 = .ok (.getfield 197, 3) := by decide +kernel
theorem dX10_readSettings_39 : decode cX10_readSettings 39 = .ok (.aload_n 0, 1) := by decide +kernel
theorem dX10_readSettings_40 : decode cX10_readSettings 40 = .ok (.getfield 429, 3) := by decide +kernel
theorem dX10_readSettings_43 : decode cX10_readSettings 43 = .ok (.iconst 1, 1) := by decide +kernel
theorem dX10_readSettings_44 : decode cX10_readSettings 44 = .ok (.iaload, 1) := by decide +kernel
theorem dX10_readSettings_45 : decode cX10_readSettings 45 = .ok (.putfield 430, 3) := by decide +kernel
theorem dX10_readSettings_48 : decode cX10_readSettings 48 = .ok (.aload_n 1, 1) := by decide +kernel
theorem dX10_readSettings_49 : decode cX10_readSettings 49 = .ok (.getfield 197, 3) := by decide +kernel
theorem dX10_readSettings_52 : decode cX10_readSettings 52 = .ok (.aload_n 0, 1) := by decide +kernel
theorem dX10_readSettings_53 : decode cX10_readSettings 53 = .ok (.getfield 429, 3) := by decide +kernel
theorem dX10_readSettings_56 : decode cX10_readSettings 56 = .ok (.iconst 2, 1) := by decide +kernel
theorem dX10_readSettings_57 : decode cX10_readSettings 57 = .ok (.iaload, 1) := by decide +kernel
theorem dX10_readSettings_58 : decode cX10_readSettings 58 = .ok (.putfield 433, 3) := by decide +kernel
theorem dX10_readSettings_61 : decode cX10_readSettings 61 = .ok (.aload_n 1, 1) := by decide +kernel
theorem dX10_readSettings_62 : decode cX10_readSettings 62 = .ok (.getfield 197, 3) := by decide +kernel
theorem dX10_readSettings_65 : decode cX10_readSettings 65 = .ok (.aload_n 0, 1) := by decide +kernel
theorem dX10_readSettings_66 : decode cX10_readSettings 66 = .ok (.getfield 429, 3) := by decide +kernel
theorem dX10_readSettings_69 : decode cX10_readSettings 69 = .ok (.iconst 3, 1) := by decide +kernel
theorem dX10_readSettings_70 : decode cX10_readSettings 70 = .ok (.iaload, 1) := by decide +kernel
theorem dX10_readSettings_71 : decode cX10_readSettings 71 = .ok (.putfield 436, 3) := by decide +kernel
theorem dX10_readSettings_74 : decode cX10_readSettings 74 = .ok (.aload_n 1, 1) := by decide +kernel
theorem dX10_readSettings_75 : decode cX10_readSettings 75 = .ok (.getfield 197, 3) := by decide +kernel
theorem dX10_readSettings_78 : decode cX10_readSettings 78 = .ok (.aload_n 0, 1) := by decide +kernel
theorem dX10_readSettings_79 : decode cX10_readSettings 79 = .ok (.getfield 429, 3) := by decide +kernel
theorem dX10_readSettings_82 : decode cX10_readSettings 82 = .ok (.iconst 4, 1) := by decide +kernel
theorem dX10_readSettings_83 : decode cX10_readSettings 83 = .ok (.iaload, 1) := by decide +kernel
theorem dX10_readSettings_84 : decode cX10_readSettings 84 = .ok (.putfield 439, 3) := by decide +kernel
theorem dX10_readSettings_87 : decode cX10_readSettings 87 = .ok (.aload_n 1, 1) := by decide +kernel
theorem dX10_readSettings_88 : decode cX10_readSettings 88 = .ok (.getfield 197, 3) := by decide +kernel
theorem dX10_readSettings_91 : decode cX10_readSettings 91 = .ok (.aload_n 0, 1) := by decide +kernel
theorem dX10_readSettings_92 : decode cX10_readSettings 92 = .ok (.getfield 429, 3) := by decide +kernel
theorem dX10_readSettings_95 : decode cX10_readSettings 95 = .ok (.iconst 5, 1) := by decide +kernel
theorem dX10_readSettings_96 : decode cX10_readSettings 96 = .ok (.iaload, 1) := by decide +kernel
theorem dX10_readSettings_97 : decode cX10_readSettings 97 = .ok (.putfield 442, 3) := by decide +kernel
theorem dX10_readSettings_100 : decode cX10_readSettings 100 = .ok (.aload_n 1, 1) := by decide +kernel
theorem dX10_readSettings_101 : decode cX10_readSettings 101 = .ok (.getfield 197, 3) := by decide +kernel
theorem dX10_readSettings_104 : decode cX10_readSettings 104 = .ok (.aload_n 0, 1) := by decide +kernel
theorem dX10_readSettings_105 : decode cX10_readSettings 105 = .ok (.getfield 429, 3) := by decide +kernel
theorem dX10_readSettings_108 : decode cX10_readSettings 108 = .ok (.bipush 6, 2) := by decide +kernel
theorem dX10_readSettings_110 : decode cX10_readSettings 110 = .ok (.iaload, 1) := by decide +kernel
theorem dX10_readSettings_111 : decode cX10_readSettings 111 = .ok (.putfield 445, 3) := by decide +kernel
theorem dX10_readSettings_114 : decode cX10_readSettings 114 = .ok (.aload_n 0, 1) := by decide +kernel
theorem dX10_readSettings_115 : decode cX10_readSettings 115 = .ok (.invokevirtual 448, 3) := by decide +kernel
theorem dX10_readSettings_118 : decode cX10_readSettings 118 = .ok (.ireturn, 1) := by decide +kernel
theorem dX10_readClerks_0 : decode cX10_readClerks 0 = .ok (.aload_n 1, 1) := by decide +kernel
theorem dX10_readClerks_1 : decode cX10_readClerks 1 = .ok (.iconst 0, 1) := by decide +kernel
theorem dX10_readClerks_2 : decode cX10_readClerks 2 = .ok (.putfield 106, 3) := by decide +kernel
theorem dX10_readClerks_5 : decode cX10_readClerks 5 = .ok (.iconst 0, 1) := by decide +kernel
theorem dX10_readClerks_6 : decode cX10_readClerks 6 = .ok (.istore_n 2, 1) := by decide +kernel
theorem dX10_readClerks_7 : decode cX10_readClerks 7 = .ok (.iload_n 2, 1) := by decide +kernel
theorem dX10_readClerks_8 : decode cX10_readClerks 8 = .ok (.bipush 6, 2) := by decide +kernel
theorem dX10_readClerks_10 : decode cX10_readClerks 10 = .ok (.if_icmp .gt 118, 3) := by decide +kernel
theorem dX10_readClerks_13 : decode cX10_readClerks 13 = .ok (.aload_n 0, 1) := by decide +kernel
theorem dX10_readClerks_14 : decode cX10_readClerks 14 = .ok (.ldc_w 451, 3) := by decide +kernel
theorem dX10_readClerks_17 : decode cX10_readClerks 17 = .ok (.invokevirtual 452, 3) := by decide +kernel
theorem dX10_readClerks_20 : decode cX10_readClerks 20 = .ok (.ifCond .ne 22, 3) := by decide +kernel
theorem dX10_readClerks_23 : decode cX10_readClerks 23 = .ok (.iload_n 2, 1) := by decide +kernel
theorem dX10_readClerks_24 : decode cX10_readClerks 24 = .ok (.iconst 2, 1) := by decide +kernel
theorem dX10_readClerks_25 : decode cX10_readClerks 25 = .ok (.if_icmp .ge 11, 3) := by decide +kernel
theorem dX10_readClerks_28 : decode cX10_readClerks 28 = .ok (.aload_n 0, 1) := by decide +kernel
theorem dX10_readClerks_29 : decode cX10_readClerks 29 = .ok (.iconst 1, 1) := by decide +kernel
theorem dX10_readClerks_30 : decode cX10_readClerks 30 = .ok (.invokevirtual 455, 3) := by decide +kernel
theorem dX10_readClerks_33 : decode cX10_readClerks 33 = .ok (.ifCond .eq 7, 3) := by decide +kernel
theorem dX10_readClerks_36 : decode cX10_readClerks 36 = .ok (.iconst 1, 1) := by decide +kernel
theorem dX10_readClerks_37 : decode cX10_readClerks 37 = .ok (.goto 4, 3) := by decide +kernel
theorem dX10_readClerks_40 : decode cX10_readClerks 40 = .ok (.iconst 0, 1) := by decide +kernel
theorem dX10_readClerks_41 : decode cX10_readClerks 41 = .ok (.ireturn, 1) := by decide +kernel
theorem dX10_readClerks_42 : decode cX10_readClerks 42 = .ok (.iload_n 2, 1) := by decide +kernel
theorem dX10_readClerks_43 : decode cX10_readClerks 43 = .ok (.bipush 6, 2) := by decide +kernel
theorem dX10_readClerks_45 : decode cX10_readClerks 45 = .ok (.if_icmp .ne 9, 3) := by decide +kernel
theorem dX10_readClerks_48 : decode cX10_readClerks 48 = .ok (.aload_n 0, 1) := by decide +kernel
theorem dX10_readClerks_49 : decode cX10_readClerks 49 = .ok (.iconst 4, 1) := by decide +kernel
theorem dX10_readClerks_50 : decode cX10_readClerks 50 = .ok (.invokevirtual 455, 3) := by decide +kernel
theorem dX10_readClerks_53 : decode cX10_readClerks 53 = .ok (.ireturn, 1) := by decide +kernel
theorem dX10_readClerks_54 : decode cX10_readClerks 54 = .ok (.aload_n 0, 1) := by decide +kernel
theorem dX10_readClerks_55 : decode cX10_readClerks 55 = .ok (.invokevirtual 458, 3) := by decide +kernel
theorem dX10_readClerks_58 : decode cX10_readClerks 58 = .ok (.aload_n 0, 1) := by decide +kernel
theorem dX10_readClerks_59 : decode cX10_readClerks 59 = .ok (.invokevirtual 461, 3) := by decide +kernel
theorem dX10_readClerks_62 : decode cX10_readClerks 62 = .ok (.ifCond .ne 5, 3) := by decide +kernel
theorem dX10_readClerks_65 : decode cX10_readClerks 65 = .ok (.iconst 0, 1) := by decide +kernel
theorem dX10_readClerks_66 : decode cX10_readClerks 66 = .ok (.ireturn, 1) := by decide +kernel
theorem dX10_readClerks_67 : decode cX10_readClerks 67 = .ok (.aload_n 1, 1) := by decide +kernel
theorem dX10_readClerks_68 : decode cX10_readClerks 68 = .ok (.aload_n 0, 1) := by decide +kernel
theorem dX10_readClerks_69 : decode cX10_readClerks 69 = .ok (.getfield 152, 3) := by decide +kernel
theorem dX10_readClerks_72 : decode cX10_readClerks 72 = .ok (.aload_n 0, 1) := by decide +kernel
theorem dX10_readClerks_73 : decode cX10_readClerks 73 = .ok (.getfield 464, 3) := by decide +kernel
theorem dX10_readClerks_76 : decode cX10_readClerks 76 = .ok (.aload_n 0, 1) := by decide +kernel
theorem dX10_readClerks_77 : decode cX10_readClerks 77 = .ok (.getfield 467, 3) := by decide +kernel
theorem dX10_readClerks_80 : decode cX10_readClerks 80 = .ok (.invokevirtual 156, 3) := by decide +kernel
theorem dX10_readClerks_83 : decode cX10_readClerks 83 = .ok (.iconst (-1), 1) := by decide +kernel
theorem dX10_readClerks_84 : decode cX10_readClerks 84 = .ok (.if_icmp .eq 9, 3) := by decide +kernel
theorem dX10_readClerks_87 : decode cX10_readClerks 87 = .ok (.aload_n 0, 1) := by decide +kernel
theorem dX10_readClerks_88 : decode cX10_readClerks 88 = .ok (.iconst 3, 1) := by decide +kernel
theorem dX10_readClerks_89 : decode cX10_readClerks 89 = .ok (.invokevirtual 455, 3) := by decide +kernel
theorem dX10_readClerks_92 : decode cX10_readClerks 92 = .ok (.ireturn, 1) := by decide +kernel
theorem dX10_readClerks_93 : decode cX10_readClerks 93 = .ok (.aload_n 1, 1) := by decide +kernel
theorem dX10_readClerks_94 : decode cX10_readClerks 94 = .ok (.aload_n 0, 1) := by decide +kernel
theorem dX10_readClerks_95 : decode cX10_readClerks 95 = .ok (.getfield 152, 3) := by decide +kernel
theorem dX10_readClerks_98 : decode cX10_readClerks 98 = .ok (.aload_n 0, 1) := by decide +kernel
theorem dX10_readClerks_99 : decode cX10_readClerks 99 = .ok (.getfield 464, 3) := by decide +kernel
theorem dX10_readClerks_102 : decode cX10_readClerks 102 = .ok (.aload_n 0, 1) := by decide +kernel
theorem dX10_readClerks_103 : decode cX10_readClerks 103 = .ok (.getfield 467, 3) := by decide +kernel
theorem dX10_readClerks_106 : decode cX10_readClerks 106 = .ok (.invokevirtual 470, 3) := by decide +kernel
theorem dX10_readClerks_109 : decode cX10_readClerks 109 = .ok (.aload_n 0, 1) := by decide +kernel
theorem dX10_readClerks_110 : decode cX10_readClerks 110 = .ok (.invokevirtual 458, 3) := by decide +kernel
theorem dX10_readClerks_113 : decode cX10_readClerks 113 = .ok (.aload_n 0, 1) := by decide +kernel
theorem dX10_readClerks_114 : decode cX10_readClerks 114 = .ok (.invokevirtual 448, 3) := by decide +kernel
theorem dX10_readClerks_117 : decode cX10_readClerks 117 = .ok (.ifCond .ne 5, 3) := by decide +kernel
theorem dX10_readClerks_120 : decode cX10_readClerks 120 = .ok (.iconst 0, 1) := by decide +kernel
theorem dX10_readClerks_121 : decode cX10_readClerks 121 = .ok (.ireturn, 1) := by decide +kernel
theorem dX10_readClerks_122 : decode cX10_readClerks 122 = .ok (.iinc 2 1, 3) := by decide +kernel
theorem dX10_readClerks_125 : decode cX10_readClerks 125 = .ok (.goto (-118), 3) := by decide +kernel
theorem dX10_readClerks_128 : decode cX10_readClerks 128 = .ok (.iconst 1, 1) := by decide +kernel
theorem dX10_readClerks_129 : decode cX10_readClerks 129 = .ok (.ireturn, 1) := by decide +kernel
theorem dX10_readLetters_0 : decode cX10_readLetters 0 = .ok (.iconst 0, 1) := by decide +kernel
theorem dX10_readLetters_1 : decode cX10_readLetters 1 = .ok (.istore_n 2, 1) := by decide +kernel
theorem dX10_readLetters_2 : decode cX10_readLetters 2 = .ok (.iload_n 2, 1) := by decide +kernel
theorem dX10_readLetters_3 : decode cX10_readLetters 3 = .ok (.bipush 12, 2) := by decide +kernel
theorem dX10_readLetters_5 : decode cX10_readLetters 5 = .ok (.if_icmp .gt 114, 3) := by decide +kernel
theorem dX10_readLetters_8 : decode cX10_readLetters 8 = .ok (.aload_n 0, 1) := by decide +kernel
theorem dX10_readLetters_9 : decode cX10_readLetters 9 = .ok (.getfield 474, 3) := by decide +kernel
theorem dX10_readLetters_12 : decode cX10_readLetters 12 = .ok (.ifCond .eq 107, 3) := by decide +kernel
theorem dX10_readLetters_15 : decode cX10_readLetters 15 = .ok (.aload_n 0, 1) := by decide +kernel
theorem dX10_readLetters_16 : decode cX10_readLetters 16 = .ok (.ldc_w 475, 3) := by decide +kernel
theorem dX10_readLetters_19 : decode cX10_readLetters 19 = .ok (.invokevirtual 452, 3) := by decide +kernel
theorem dX10_readLetters_22 : decode cX10_readLetters 22 = .ok (.ifCond .ne 9, 3) := by decide +kernel
theorem dX10_readLetters_25 : decode cX10_readLetters 25 = .ok (.aload_n 0, 1) := by decide +kernel
theorem dX10_readLetters_26 : decode cX10_readLetters 26 = .ok (.iconst 1, 1) := by decide +kernel
theorem dX10_readLetters_27 : decode cX10_readLetters 27 = .ok (.invokevirtual 455, 3) := by decide +kernel
theorem dX10_readLetters_30 : decode cX10_readLetters 30 = .ok (.ireturn, 1) := by decide +kernel
theorem dX10_readLetters_31 : decode cX10_readLetters 31 = .ok (.iload_n 2, 1) := by decide +kernel
theorem dX10_readLetters_32 : decode cX10_readLetters 32 = .ok (.bipush 12, 2) := by decide +kernel
theorem dX10_readLetters_34 : decode cX10_readLetters 34 = .ok (.if_icmp .ne 9, 3) := by decide +kernel
theorem dX10_readLetters_37 : decode cX10_readLetters 37 = .ok (.aload_n 0, 1) := by decide +kernel
theorem dX10_readLetters_38 : decode cX10_readLetters 38 = .ok (.iconst 4, 1) := by decide +kernel
theorem dX10_readLetters_39 : decode cX10_readLetters 39 = .ok (.invokevirtual 455, 3) := by decide +kernel
theorem dX10_readLetters_42 : decode cX10_readLetters 42 = .ok (.ireturn, 1) := by decide +kernel
theorem dX10_readLetters_43 : decode cX10_readLetters 43 = .ok (.aload_n 0, 1) := by decide +kernel
theorem dX10_readLetters_44 : decode cX10_readLetters 44 = .ok (.invokevirtual 458, 3) := by decide +kernel
theorem dX10_readLetters_47 : decode cX10_readLetters 47 = .ok (.aload_n 0, 1) := by decide +kernel
theorem dX10_readLetters_48 : decode cX10_readLetters 48 = .ok (.aload_n 1, 1) := by decide +kernel
theorem dX10_readLetters_49 : decode cX10_readLetters 49 = .ok (.getfield 102, 3) := by decide +kernel
theorem dX10_readLetters_52 : decode cX10_readLetters 52 = .ok (.invokevirtual 477, 3) := by decide +kernel
theorem dX10_readLetters_55 : decode cX10_readLetters 55 = .ok (.istore_n 3, 1) := by decide +kernel
theorem dX10_readLetters_56 : decode cX10_readLetters 56 = .ok (.iload_n 3, 1) := by decide +kernel
theorem dX10_readLetters_57 : decode cX10_readLetters 57 = .ok (.iconst (-1), 1) := by decide +kernel
theorem dX10_readLetters_58 : decode cX10_readLetters 58 = .ok (.if_icmp .eq 23, 3) := by decide +kernel
theorem dX10_readLetters_61 : decode cX10_readLetters 61 = .ok (.aload_n 0, 1) := by decide +kernel
theorem dX10_readLetters_62 : decode cX10_readLetters 62 = .ok (.getstatic 481, 3) := by decide +kernel
theorem dX10_readLetters_65 : decode cX10_readLetters 65 = .ok (.getstatic 484, 3) := by decide +kernel
theorem dX10_readLetters_68 : decode cX10_readLetters 68 = .ok (.invokevirtual 425, 3) := by decide +kernel
theorem dX10_readLetters_71 : decode cX10_readLetters 71 = .ok (.ifCond .eq 10, 3) := by decide +kernel
theorem dX10_readLetters_74 : decode cX10_readLetters 74 = .ok (.aload_n 0, 1) := by decide +kernel
theorem dX10_readLetters_75 : decode cX10_readLetters 75 = .ok (.invokevirtual 448, 3) := by decide +kernel
theorem dX10_readLetters_78 : decode cX10_readLetters 78 = .ok (.ifCond .ne 5, 3) := by decide +kernel
theorem dX10_readLetters_81 : decode cX10_readLetters 81 = .ok (.iconst 0, 1) := by decide +kernel
theorem dX10_readLetters_82 : decode cX10_readLetters 82 = .ok (.ireturn, 1) := by decide +kernel
theorem dX10_readLetters_83 : decode cX10_readLetters 83 = .ok (.aload_n 1, 1) := by decide +kernel
theorem dX10_readLetters_84 : decode cX10_readLetters 84 = .ok (.iload_n 3, 1) := by decide +kernel
theorem dX10_readLetters_85 : decode cX10_readLetters 85 = .ok (.aload_n 0, 1) := by decide +kernel
theorem dX10_readLetters_86 : decode cX10_readLetters 86 = .ok (.getfield 429, 3) := by decide +kernel
theorem dX10_readLetters_89 : decode cX10_readLetters 89 = .ok (.iconst 0, 1) := by decide +kernel
theorem dX10_readLetters_90 : decode cX10_readLetters 90 = .ok (.iaload, 1) := by decide +kernel
theorem dX10_readLetters_91 : decode cX10_readLetters 91 = .ok (.aload_n 0, 1) := by decide +kernel
theorem dX10_readLetters_92 : decode cX10_readLetters 92 = .ok (.getfield 429, 3) := by decide +kernel
theorem dX10_readLetters_95 : decode cX10_readLetters 95 = .ok (.iconst 1, 1) := by decide +kernel
theorem dX10_readLetters_96 : decode cX10_readLetters 96 = .ok (.iaload, 1) := by decide +kernel
theorem dX10_readLetters_97 : decode cX10_readLetters 97 = .ok (.aload_n 0, 1) := by decide +kernel
theorem dX10_readLetters_98 : decode cX10_readLetters 98 = .ok (.getfield 429, 3) := by decide +kernel
theorem dX10_readLetters_101 : decode cX10_readLetters 101 = .ok (.iconst 2, 1) := by decide +kernel
theorem dX10_readLetters_102 : decode cX10_readLetters 102 = .ok (.iaload, 1) := by decide +kernel
theorem dX10_readLetters_103 : decode cX10_readLetters 103 = .ok (.aload_n 0, 1) := by decide +kernel
theorem dX10_readLetters_104 : decode cX10_readLetters 104 = .ok (.getfield 429, 3) := by decide +kernel
theorem dX10_readLetters_107 : decode cX10_readLetters 107 = .ok (.iconst 3, 1) := by decide +kernel
theorem dX10_readLetters_108 : decode cX10_readLetters 108 = .ok (.iaload, 1) := by decide +kernel
theorem dX10_readLetters_109 : decode cX10_readLetters 109 = .ok (.invokevirtual 295, 3) := by decide +kernel
theorem dX10_readLetters_112 : decode cX10_readLetters 112 = .ok (.pop, 1) := by decide +kernel
theorem dX10_readLetters_113 : decode cX10_readLetters 113 = .ok (.iinc 2 1, 3) := by decide +kernel
theorem dX10_readLetters_116 : decode cX10_readLetters 116 = .ok (.goto (-114), 3) := by decide +kernel
theorem dX10_readLetters_119 : decode cX10_readLetters 119 = .ok (.iconst 1, 1) := by decide +kernel
theorem dX10_readLetters_120 : decode cX10_readLetters 120 = .ok (.ireturn, 1) := by decide +kernel
theorem dX11_thrown_0 : decode cX11_thrown 0 = .ok (.aload_n 0, 1) := by decide +kernel
theorem dX11_thrown_1 : decode cX11_thrown 1 = .ok (.getfield 1, 3) := by decide +kernel
theorem dX11_thrown_4 : decode cX11_thrown 4 = .ok (.ireturn, 1) := by decide +kernel
theorem dX11_init_0 : decode cX11_init 0 = .ok (.aload_n 0, 1) := by decide +kernel
theorem dX11_init_1 : decode cX11_init 1 = .ok (.invokespecial 7, 3) := by decide +kernel
theorem dX11_init_4 : decode cX11_init 4 = .ok (.aload_n 0, 1) := by decide +kernel
theorem dX11_init_5 : decode cX11_init 5 = .ok (.sipush 1600, 3) := by decide +kernel
theorem dX11_init_8 : decode cX11_init 8 = .ok (.newarray .int, 2) := by decide +kernel
theorem dX11_init_10 : decode cX11_init 10 = .ok (.putfield 13, 3) := by decide +kernel
theorem dX11_init_13 : decode cX11_init 13 = .ok (.aload_n 0, 1) := by decide +kernel
theorem dX11_init_14 : decode cX11_init 14 = .ok (.iconst 2, 1) := by decide +kernel
theorem dX11_init_15 : decode cX11_init 15 = .ok (.newarray .boolean, 2) := by decide +kernel
theorem dX11_init_17 : decode cX11_init 17 = .ok (.putfield 17, 3) := by decide +kernel
theorem dX11_init_20 : decode cX11_init 20 = .ok (.aload_n 0, 1) := by decide +kernel
theorem dX11_init_21 : decode cX11_init 21 = .ok (.iconst 0, 1) := by decide +kernel
theorem dX11_init_22 : decode cX11_init 22 = .ok (.putfield 21, 3) := by decide +kernel
theorem dX11_init_25 : decode cX11_init 25 = .ok (.aload_n 0, 1) := by decide +kernel
theorem dX11_init_26 : decode cX11_init 26 = .ok (.sipush 600, 3) := by decide +kernel
theorem dX11_init_29 : decode cX11_init 29 = .ok (.newarray .int, 2) := by decide +kernel
theorem dX11_init_31 : decode cX11_init 31 = .ok (.putfield 24, 3) := by decide +kernel
theorem dX11_init_34 : decode cX11_init 34 = .ok (.aload_n 0, 1) := by decide +kernel
theorem dX11_init_35 : decode cX11_init 35 = .ok (.iconst 0, 1) := by decide +kernel
theorem dX11_init_36 : decode cX11_init 36 = .ok (.putfield 27, 3) := by decide +kernel
theorem dX11_init_39 : decode cX11_init 39 = .ok (.aload_n 0, 1) := by decide +kernel
theorem dX11_init_40 : decode cX11_init 40 = .ok (.iconst 0, 1) := by decide +kernel
theorem dX11_init_41 : decode cX11_init 41 = .ok (.putfield 30, 3) := by decide +kernel
theorem dX11_init_44 : decode cX11_init 44 = .ok (.aload_n 0, 1) := by decide +kernel
theorem dX11_init_45 : decode cX11_init 45 = .ok (.iconst (-1), 1) := by decide +kernel
theorem dX11_init_46 : decode cX11_init 46 = .ok (.putfield 33, 3) := by decide +kernel
theorem dX11_init_49 : decode cX11_init 49 = .ok (.aload_n 0, 1) := by decide +kernel
theorem dX11_init_50 : decode cX11_init 50 = .ok (.sipush 150, 3) := by decide +kernel
theorem dX11_init_53 : decode cX11_init 53 = .ok (.newarray .int, 2) := by decide +kernel
theorem dX11_init_55 : decode cX11_init 55 = .ok (.putfield 36, 3) := by decide +kernel
theorem dX11_init_58 : decode cX11_init 58 = .ok (.aload_n 0, 1) := by decide +kernel
theorem dX11_init_59 : decode cX11_init 59 = .ok (.iconst 0, 1) := by decide +kernel
theorem dX11_init_60 : decode cX11_init 60 = .ok (.putfield 39, 3) := by decide +kernel
theorem dX11_init_63 : decode cX11_init 63 = .ok (.aload_n 0, 1) := by decide +kernel
theorem dX11_init_64 : decode cX11_init 64 = .ok (.iconst 0, 1) := by decide +kernel
theorem dX11_init_65 : decode cX11_init 65 = .ok (.putfield 1, 3) := by decide +kernel
theorem dX11_init_68 : decode cX11_init 68 = .ok (.aload_n 0, 1) := by decide +kernel
theorem dX11_init_69 : decode cX11_init 69 = .ok (.iconst 0, 1) := by decide +kernel
theorem dX11_init_70 : decode cX11_init 70 = .ok (.putfield 42, 3) := by decide +kernel
theorem dX11_init_73 : decode cX11_init 73 = .ok (.aload_n 0, 1) := by decide +kernel
theorem dX11_init_74 : decode cX11_init 74 = .ok (.iconst 0, 1) := by decide +kernel
theorem dX11_init_75 : decode cX11_init 75 = .ok (.putfield 45, 3) := by decide +kernel
theorem dX11_init_78 : decode cX11_init 78 = .ok (.aload_n 0, 1) := by decide +kernel
theorem dX11_init_79 : decode cX11_init 79 = .ok (.iconst 0, 1) := by decide +kernel
theorem dX11_init_80 : decode cX11_init 80 = .ok (.putfield 48, 3) := by decide +kernel
theorem dX11_init_83 : decode cX11_init 83 = .ok (.aload_n 0, 1) := by decide +kernel
theorem dX11_init_84 : decode cX11_init 84 = .ok (.iconst 0, 1) := by decide +kernel
theorem dX11_init_85 : decode cX11_init 85 = .ok (.putfield 51, 3) := by decide +kernel
theorem dX11_init_88 : decode cX11_init 88 = .ok (.aload_n 0, 1) := by decide +kernel
theorem dX11_init_89 : decode cX11_init 89 = .ok (.sipush 180, 3) := by decide +kernel
theorem dX11_init_92 : decode cX11_init 92 = .ok (.newarray .int, 2) := by decide +kernel
theorem dX11_init_94 : decode cX11_init 94 = .ok (.putfield 54, 3) := by decide +kernel
theorem dX11_init_97 : decode cX11_init 97 = .ok (.aload_n 0, 1) := by decide +kernel
theorem dX11_init_98 : decode cX11_init 98 = .ok (.bipush 12, 2) := by decide +kernel
theorem dX11_init_100 : decode cX11_init 100 = .ok (.newarray .int, 2) := by decide +kernel
theorem dX11_init_102 : decode cX11_init 102 = .ok (.putfield 57, 3) := by decide +kernel
theorem dX11_init_105 : decode cX11_init 105 = .ok (.ldc 60, 2) := by decide +kernel
theorem dX11_init_107 : decode cX11_init 107 = .ok (.astore_n 1, 1) := by decide +kernel
theorem dX11_init_108 : decode cX11_init 108 = .ok (.iconst 0, 1) := by decide +kernel
theorem dX11_init_109 : decode cX11_init 109 = .ok (.istore_n 2, 1) := by decide +kernel
theorem dX11_init_110 : decode cX11_init 110 = .ok (.iload_n 2, 1) := by decide +kernel
theorem dX11_init_111 : decode cX11_init 111 = .ok (.aload_n 1, 1) := by decide +kernel
theorem dX11_init_112 : decode cX11_init 112 = .ok (.invokevirtual 62, 3) := by decide +kernel
theorem dX11_init_115 : decode cX11_init 115 = .ok (.if_icmp .ge 20, 3) := by decide +kernel
theorem dX11_init_118 : decode cX11_init 118 = .ok (.aload_n 0, 1) := by decide +kernel
theorem dX11_init_119 : decode cX11_init 119 = .ok (.getfield 24, 3) := by decide +kernel
theorem dX11_init_122 : decode cX11_init 122 = .ok (.iload_n 2, 1) := by decide +kernel
theorem dX11_init_123 : decode cX11_init 123 = .ok (.aload_n 1, 1) := by decide +kernel
theorem dX11_init_124 : decode cX11_init 124 = .ok (.iload_n 2, 1) := by decide +kernel
theorem dX11_init_125 : decode cX11_init 125 = .ok (.invokevirtual 68, 3) := by decide +kernel
theorem dX11_init_128 : decode cX11_init 128 = .ok (.iastore, 1) := by decide +kernel
theorem dX11_init_129 : decode cX11_init 129 = .ok (.iinc 2 1, 3) := by decide +kernel
theorem dX11_init_132 : decode cX11_init 132 = .ok (.goto (-22), 3) := by decide +kernel
theorem dX11_init_135 : decode cX11_init 135 = .ok (.aload_n 0, 1) := by decide +kernel
theorem dX11_init_136 : decode cX11_init 136 = .ok (.aload_n 1, 1) := by decide +kernel
theorem dX11_init_137 : decode cX11_init 137 = .ok (.invokevirtual 62, 3) := by decide +kernel
theorem dX11_init_140 : decode cX11_init 140 = .ok (.putfield 27, 3) := by decide +kernel
theorem dX11_init_143 : decode cX11_init 143 = .ok (.aload_n 0, 1) := by decide +kernel
theorem dX11_init_144 : decode cX11_init 144 = .ok (.invokevirtual 72, 3) := by decide +kernel
theorem dX11_init_147 : decode cX11_init 147 = .ok (.aload_n 0, 1) := by decide +kernel
theorem dX11_init_148 : decode cX11_init 148 = .ok (.invokevirtual 75, 3) := by decide +kernel
theorem dX11_init_151 : decode cX11_init 151 = .ok (.pop, 1) := by decide +kernel
theorem dX11_init_152 : decode cX11_init 152 = .ok (.aload_n 0, 1) := by decide +kernel
theorem dX11_init_153 : decode cX11_init 153 = .ok (.iconst 0, 1) := by decide +kernel
theorem dX11_init_154 : decode cX11_init 154 = .ok (.putfield 27, 3) := by decide +kernel
theorem dX11_init_157 : decode cX11_init 157 = .ok (.return_, 1) := by decide +kernel
theorem dX11_fails_0 : decode cX11_fails 0 = .ok (.aload_n 0, 1) := by decide +kernel
theorem dX11_fails_1 : decode cX11_fails 1 = .ok (.iload_n 1, 1) := by decide +kernel
theorem dX11_fails_2 : decode cX11_fails 2 = .ok (.ifCond .eq 7, 3) := by decide +kernel
theorem dX11_fails_5 : decode cX11_fails 5 = .ok (.iconst 1, 1) := by decide +kernel
theorem dX11_fails_6 : decode cX11_fails 6 = .ok (.goto 20, 3) := by decide +kernel
theorem dX11_fails_9 : decode cX11_fails 9 = .ok (.iload_n 2, 1) := by decide +kernel
theorem dX11_fails_10 : decode cX11_fails 10 = .ok (.ifCond .eq 7, 3) := by decide +kernel
theorem dX11_fails_13 : decode cX11_fails 13 = .ok (.iconst 2, 1) := by decide +kernel
theorem dX11_fails_14 : decode cX11_fails 14 = .ok (.goto 12, 3) := by decide +kernel
theorem dX11_fails_17 : decode cX11_fails 17 = .ok (.iload_n 3, 1) := by decide +kernel
theorem dX11_fails_18 : decode cX11_fails 18 = .ok (.ifCond .eq 7, 3) := by decide +kernel
theorem dX11_fails_21 : decode cX11_fails 21 = .ok (.iconst 3, 1) := by decide +kernel
theorem dX11_fails_22 : decode cX11_fails 22 = .ok (.goto 4, 3) := by decide +kernel
theorem dX11_fails_25 : decode cX11_fails 25 = .ok (.iconst 0, 1) := by decide +kernel
theorem dX11_fails_26 : decode cX11_fails 26 = .ok (.putfield 1, 3) := by decide +kernel
theorem dX11_fails_29 : decode cX11_fails 29 = .ok (.aload_n 0, 1) := by decide +kernel
theorem dX11_fails_30 : decode cX11_fails 30 = .ok (.getfield 1, 3) := by decide +kernel
theorem dX11_fails_33 : decode cX11_fails 33 = .ok (.ifCond .le 7, 3) := by decide +kernel
theorem dX11_fails_36 : decode cX11_fails 36 = .ok (.iconst 1, 1) := by decide +kernel
theorem dX11_fails_37 : decode cX11_fails 37 = .ok (.goto 4, 3) := by decide +kernel
theorem dX11_fails_40 : decode cX11_fails 40 = .ok (.iconst 0, 1) := by decide +kernel
theorem dX11_fails_41 : decode cX11_fails 41 = .ok (.ireturn, 1) := by decide +kernel
theorem dX11_in_0 : decode cX11_in 0 = .ok (.iload_n 0, 1) := by decide +kernel
theorem dX11_in_1 : decode cX11_in 1 = .ok (.iload_n 1, 1) := by decide +kernel
theorem dX11_in_2 : decode cX11_in 2 = .ok (.if_icmp .lt 12, 3) := by decide +kernel
theorem dX11_in_5 : decode cX11_in 5 = .ok (.iload_n 0, 1) := by decide +kernel
theorem dX11_in_6 : decode cX11_in 6 = .ok (.iload_n 2, 1) := by decide +kernel
theorem dX11_in_7 : decode cX11_in 7 = .ok (.if_icmp .gt 7, 3) := by decide +kernel
theorem dX11_in_10 : decode cX11_in 10 = .ok (.iconst 1, 1) := by decide +kernel
theorem dX11_in_11 : decode cX11_in 11 = .ok (.goto 4, 3) := by decide +kernel
theorem dX11_in_14 : decode cX11_in 14 = .ok (.iconst 0, 1) := by decide +kernel
theorem dX11_in_15 : decode cX11_in 15 = .ok (.ireturn, 1) := by decide +kernel
theorem dX11_isClerk_0 : decode cX11_isClerk 0 = .ok (.iload_n 1, 1) := by decide +kernel
theorem dX11_isClerk_1 : decode cX11_isClerk 1 = .ok (.iconst 0, 1) := by decide +kernel
theorem dX11_isClerk_2 : decode cX11_isClerk 2 = .ok (.aload_n 0, 1) := by decide +kernel
theorem dX11_isClerk_3 : decode cX11_isClerk 3 = .ok (.getfield 13, 3) := by decide +kernel
theorem dX11_isClerk_6 : decode cX11_isClerk 6 = .ok (.bipush 7, 2) := by decide +kernel
theorem dX11_isClerk_8 : decode cX11_isClerk 8 = .ok (.iaload, 1) := by decide +kernel
theorem dX11_isClerk_9 : decode cX11_isClerk 9 = .ok (.iconst 1, 1) := by decide +kernel
theorem dX11_isClerk_10 : decode cX11_isClerk 10 = .ok (.isub, 1) := by decide +kernel
theorem dX11_isClerk_11 : decode cX11_isClerk 11 = .ok (.invokestatic 79, 3) := by decide +kernel
theorem dX11_isClerk_14 : decode cX11_isClerk 14 = .ok (.ireturn, 1) := by decide +kernel
theorem dX11_isLetter_0 : decode cX11_isLetter 0 = .ok (.iload_n 1, 1) := by decide +kernel
theorem dX11_isLetter_1 : decode cX11_isLetter 1 = .ok (.iconst 0, 1) := by decide +kernel
theorem dX11_isLetter_2 : decode cX11_isLetter 2 = .ok (.aload_n 0, 1) := by decide +kernel
theorem dX11_isLetter_3 : decode cX11_isLetter 3 = .ok (.getfield 13, 3) := by decide +kernel
theorem dX11_isLetter_6 : decode cX11_isLetter 6 = .ok (.bipush 8, 2) := by decide +kernel
theorem dX11_isLetter_8 : decode cX11_isLetter 8 = .ok (.iaload, 1) := by decide +kernel
theorem dX11_isLetter_9 : decode cX11_isLetter 9 = .ok (.iconst 1, 1) := by decide +kernel
theorem dX11_isLetter_10 : decode cX11_isLetter 10 = .ok (.isub, 1) := by decide +kernel
theorem dX11_isLetter_11 : decode cX11_isLetter 11 = .ok (.invokestatic 79, 3) := by decide +kernel
theorem dX11_isLetter_14 : decode cX11_isLetter 14 = .ok (.ireturn, 1) := by decide +kernel
theorem dX11_of_0 : decode cX11_of 0 = .ok (.aload_n 0, 1) := by decide +kernel
theorem dX11_of_1 : decode cX11_of 1 = .ok (.getfield 13, 3) := by decide +kernel
theorem dX11_of_4 : decode cX11_of 4 = .ok (.bipush 64, 2) := by decide +kernel
theorem dX11_of_6 : decode cX11_of 6 = .ok (.iload_n 1, 1) := by decide +kernel
theorem dX11_of_7 : decode cX11_of 7 = .ok (.bipush 8, 2) := by decide +kernel
theorem dX11_of_9 : decode cX11_of 9 = .ok (.imul, 1) := by decide +kernel
theorem dX11_of_10 : decode cX11_of 10 = .ok (.iadd, 1) := by decide +kernel
theorem dX11_of_11 : decode cX11_of 11 = .ok (.iload_n 2, 1) := by decide +kernel
theorem dX11_of_12 : decode cX11_of 12 = .ok (.iadd, 1) := by decide +kernel
theorem dX11_of_13 : decode cX11_of 13 = .ok (.iaload, 1) := by decide +kernel
theorem dX11_of_14 : decode cX11_of 14 = .ok (.ireturn, 1) := by decide +kernel
theorem dX11_set_0 : decode cX11_set 0 = .ok (.aload_n 0, 1) := by decide +kernel
theorem dX11_set_1 : decode cX11_set 1 = .ok (.getfield 13, 3) := by decide +kernel
theorem dX11_set_4 : decode cX11_set 4 = .ok (.bipush 64, 2) := by decide +kernel
theorem dX11_set_6 : decode cX11_set 6 = .ok (.iload_n 1, 1) := by decide +kernel
theorem dX11_set_7 : decode cX11_set 7 = .ok (.bipush 8, 2) := by decide +kernel
theorem dX11_set_9 : decode cX11_set 9 = .ok (.imul, 1) := by decide +kernel
theorem dX11_set_10 : decode cX11_set 10 = .ok (.iadd, 1) := by decide +kernel
theorem dX11_set_11 : decode cX11_set 11 = .ok (.iload_n 2, 1) := by decide +kernel
theorem dX11_set_12 : decode cX11_set 12 = .ok (.iadd, 1) := by decide +kernel
theorem dX11_set_13 : decode cX11_set 13 = .ok (.iload_n 3, 1) := by decide +kernel
theorem dX11_set_14 : decode cX11_set 14 = .ok (.iastore, 1) := by decide +kernel
theorem dX11_set_15 : decode cX11_set 15 = .ok (.return_, 1) := by decide +kernel
theorem dX11_copyBlock_0 : decode cX11_copyBlock 0 = .ok (.iconst 0, 1) := by decide +kernel
theorem dX11_copyBlock_1 : decode cX11_copyBlock 1 = .ok (.istore_n 3, 1) := by decide +kernel
theorem dX11_copyBlock_2 : decode cX11_copyBlock 2 = .ok (.iload_n 3, 1) := by decide +kernel
theorem dX11_copyBlock_3 : decode cX11_copyBlock 3 = .ok (.sipush 160, 3) := by decide +kernel
theorem dX11_copyBlock_6 : decode cX11_copyBlock 6 = .ok (.if_icmp .ge 33, 3) := by decide +kernel
theorem dX11_copyBlock_9 : decode cX11_copyBlock 9 = .ok (.aload_n 0, 1) := by decide +kernel
theorem dX11_copyBlock_10 : decode cX11_copyBlock 10 = .ok (.getfield 13, 3) := by decide +kernel
theorem dX11_copyBlock_13 : decode cX11_copyBlock 13 = .ok (.iload_n 2, 1) := by decide +kernel
theorem dX11_copyBlock_14 : decode cX11_copyBlock 14 = .ok (.sipush 160, 3) := by decide +kernel
theorem dX11_copyBlock_17 : decode cX11_copyBlock 17 = .ok (.imul, 1) := by decide +kernel
theorem dX11_copyBlock_18 : decode cX11_copyBlock 18 = .ok (.iload_n 3, 1) := by decide +kernel
theorem dX11_copyBlock_19 : decode cX11_copyBlock 19 = .ok (.iadd, 1) := by decide +kernel
theorem dX11_copyBlock_20 : decode cX11_copyBlock 20 = .ok (.aload_n 0, 1) := by decide +kernel
theorem dX11_copyBlock_21 : decode cX11_copyBlock 21 = .ok (.getfield 13, 3) := by decide +kernel
theorem dX11_copyBlock_24 : decode cX11_copyBlock 24 = .ok (.iload_n 1, 1) := by decide +kernel
theorem dX11_copyBlock_25 : decode cX11_copyBlock 25 = .ok (.sipush 160, 3) := by decide +kernel
theorem dX11_copyBlock_28 : decode cX11_copyBlock 28 = .ok (.imul, 1) := by decide +kernel
theorem dX11_copyBlock_29 : decode cX11_copyBlock 29 = .ok (.iload_n 3, 1) := by decide +kernel
theorem dX11_copyBlock_30 : decode cX11_copyBlock 30 = .ok (.iadd, 1) := by decide +kernel
theorem dX11_copyBlock_31 : decode cX11_copyBlock 31 = .ok (.iaload, 1) := by decide +kernel
theorem dX11_copyBlock_32 : decode cX11_copyBlock 32 = .ok (.iastore, 1) := by decide +kernel
theorem dX11_copyBlock_33 : decode cX11_copyBlock 33 = .ok (.iinc 3 1, 3) := by decide +kernel
theorem dX11_copyBlock_36 : decode cX11_copyBlock 36 = .ok (.goto (-34), 3) := by decide +kernel
theorem dX11_copyBlock_39 : decode cX11_copyBlock 39 = .ok (.return_, 1) := by decide +kernel
theorem dX11_remember_0 : decode cX11_remember 0 = .ok (.aload_n 0, 1) := by decide +kernel
theorem dX11_remember_1 : decode cX11_remember 1 = .ok (.getfield 21, 3) := by decide +kernel
theorem dX11_remember_4 : decode cX11_remember 4 = .ok (.bipush 6, 2) := by decide +kernel
theorem dX11_remember_6 : decode cX11_remember 6 = .ok (.if_icmp .ne 35, 3) := by decide +kernel
theorem dX11_remember_9 : decode cX11_remember 9 = .ok (.iconst 1, 1) := by decide +kernel
theorem dX11_remember_10 : decode cX11_remember 10 = .ok (.istore_n 2, 1) := by decide +kernel
theorem dX11_remember_11 : decode cX11_remember 11 = .ok (.iload_n 2, 1) := by decide +kernel
theorem dX11_remember_12 : decode cX11_remember 12 = .ok (.bipush 6, 2) := by decide +kernel
theorem dX11_remember_14 : decode cX11_remember 14 = .ok (.if_icmp .ge 17, 3) := by decide +kernel
theorem dX11_remember_17 : decode cX11_remember 17 = .ok (.aload_n 0, 1) := by decide +kernel
theorem dX11_remember_18 : decode cX11_remember 18 = .ok (.iload_n 2, 1) := by decide +kernel
theorem dX11_remember_19 : decode cX11_remember 19 = .ok (.iconst 1, 1) := by decide +kernel
theorem dX11_remember_20 : decode cX11_remember 20 = .ok (.iadd, 1) := by decide +kernel
theorem dX11_remember_21 : decode cX11_remember 21 = .ok (.iload_n 2, 1) := by decide +kernel
theorem dX11_remember_22 : decode cX11_remember 22 = .ok (.invokevirtual 83, 3) := by decide +kernel
theorem dX11_remember_25 : decode cX11_remember 25 = .ok (.iinc 2 1, 3) := by decide +kernel
theorem dX11_remember_28 : decode cX11_remember 28 = .ok (.goto (-17), 3) := by decide +kernel
theorem dX11_remember_31 : decode cX11_remember 31 = .ok (.aload_n 0, 1) := by decide +kernel
theorem dX11_remember_32 : decode cX11_remember 32 = .ok (.dup, 1) := by decide +kernel
theorem dX11_remember_33 : decode cX11_remember 33 = .ok (.getfield 21, 3) := by decide +kernel
theorem dX11_remember_36 : decode cX11_remember 36 = .ok (.iconst 1, 1) := by decide +kernel
theorem dX11_remember_37 : decode cX11_remember 37 = .ok (.isub, 1) := by decide +kernel
theorem dX11_remember_38 : decode cX11_remember 38 = .ok (.putfield 21, 3) := by decide +kernel
theorem dX11_remember_41 : decode cX11_remember 41 = .ok (.aload_n 0, 1) := by decide +kernel
theorem dX11_remember_42 : decode cX11_remember 42 = .ok (.dup, 1) := by decide +kernel
theorem dX11_remember_43 : decode cX11_remember 43 = .ok (.getfield 21, 3) := by decide +kernel
theorem dX11_remember_46 : decode cX11_remember 46 = .ok (.iconst 1, 1) := by decide +kernel
theorem dX11_remember_47 : decode cX11_remember 47 = .ok (.iadd, 1) := by decide +kernel
theorem dX11_remember_48 : decode cX11_remember 48 = .ok (.putfield 21, 3) := by decide +kernel
theorem dX11_remember_51 : decode cX11_remember 51 = .ok (.aload_n 0, 1) := by decide +kernel
theorem dX11_remember_52 : decode cX11_remember 52 = .ok (.iload_n 1, 1) := by decide +kernel
theorem dX11_remember_53 : decode cX11_remember 53 = .ok (.aload_n 0, 1) := by decide +kernel
theorem dX11_remember_54 : decode cX11_remember 54 = .ok (.getfield 21, 3) := by decide +kernel
theorem dX11_remember_57 : decode cX11_remember 57 = .ok (.invokevirtual 83, 3) := by decide +kernel
theorem dX11_remember_60 : decode cX11_remember 60 = .ok (.return_, 1) := by decide +kernel
theorem dX11_isDone_0 : decode cX11_isDone 0 = .ok (.aload_n 0, 1) := by decide +kernel
theorem dX11_isDone_1 : decode cX11_isDone 1 = .ok (.iload_n 1, 1) := by decide +kernel
theorem dX11_isDone_2 : decode cX11_isDone 2 = .ok (.iconst 5, 1) := by decide +kernel
theorem dX11_isDone_3 : decode cX11_isDone 3 = .ok (.invokevirtual 87, 3) := by decide +kernel
theorem dX11_isDone_6 : decode cX11_isDone 6 = .ok (.ifCond .ne 7, 3) := by decide +kernel
theorem dX11_isDone_9 : decode cX11_isDone 9 = .ok (.iconst 1, 1) := by decide +kernel
theorem dX11_isDone_10 : decode cX11_isDone 10 = .ok (.goto 4, 3) := by decide +kernel
theorem dX11_isDone_13 : decode cX11_isDone 13 = .ok (.iconst 0, 1) := by decide +kernel
theorem dX11_isDone_14 : decode cX11_isDone 14 = .ok (.ireturn, 1) := by decide +kernel
theorem dX11_hasArrived_0 : decode cX11_hasArrived 0 = .ok (.aload_n 0, 1) := by decide +kernel
theorem dX11_hasArrived_1 : decode cX11_hasArrived 1 = .ok (.iload_n 1, 1) := by decide +kernel
theorem dX11_hasArrived_2 : decode cX11_hasArrived 2 = .ok (.iconst 2, 1) := by decide +kernel
theorem dX11_hasArrived_3 : decode cX11_hasArrived 3 = .ok (.invokevirtual 87, 3) := by decide +kernel
theorem dX11_hasArrived_6 : decode cX11_hasArrived 6 = .ok (.aload_n 0, 1) := by decide +kernel
theorem dX11_hasArrived_7 : decode cX11_hasArrived 7 = .ok (.getfield 13, 3) := by decide +kernel
theorem dX11_hasArrived_10 : decode cX11_hasArrived 10 = .ok (.bipush 9, 2) := by decide +kernel
theorem dX11_hasArrived_12 : decode cX11_hasArrived 12 = .ok (.iaload, 1) := by decide +kernel
theorem dX11_hasArrived_13 : decode cX11_hasArrived 13 = .ok (.if_icmp .gt 7, 3) := by decide +kernel
theorem dX11_hasArrived_16 : decode cX11_hasArrived 16 = .ok (.iconst 1, 1) := by decide +kernel
theorem dX11_hasArrived_17 : decode cX11_hasArrived 17 = .ok (.goto 4, 3) := by decide +kernel
theorem dX11_hasArrived_20 : decode cX11_hasArrived 20 = .ok (.iconst 0, 1) := by decide +kernel
theorem dX11_hasArrived_21 : decode cX11_hasArrived 21 = .ok (.ireturn, 1) := by decide +kernel
theorem dX11_isOpen_0 : decode cX11_isOpen 0 = .ok (.aload_n 0, 1) := by decide +kernel
theorem dX11_isOpen_1 : decode cX11_isOpen 1 = .ok (.iload_n 1, 1) := by decide +kernel
theorem dX11_isOpen_2 : decode cX11_isOpen 2 = .ok (.invokevirtual 91, 3) := by decide +kernel
theorem dX11_isOpen_5 : decode cX11_isOpen 5 = .ok (.ifCond .eq 15, 3) := by decide +kernel
theorem dX11_isOpen_8 : decode cX11_isOpen 8 = .ok (.aload_n 0, 1) := by decide +kernel
theorem dX11_isOpen_9 : decode cX11_isOpen 9 = .ok (.iload_n 1, 1) := by decide +kernel
theorem dX11_isOpen_10 : decode cX11_isOpen 10 = .ok (.invokevirtual 95, 3) := by decide +kernel
theorem dX11_isOpen_13 : decode cX11_isOpen 13 = .ok (.ifCond .ne 7, 3) := by decide +kernel
theorem dX11_isOpen_16 : decode cX11_isOpen 16 = .ok (.iconst 1, 1) := by decide +kernel
theorem dX11_isOpen_17 : decode cX11_isOpen 17 = .ok (.goto 4, 3) := by decide +kernel
theorem dX11_isOpen_20 : decode cX11_isOpen 20 = .ok (.iconst 0, 1) := by decide +kernel
theorem dX11_isOpen_21 : decode cX11_isOpen 21 = .ok (.ireturn, 1) := by decide +kernel
theorem dX11_current_0 : decode cX11_current 0 = .ok (.aload_n 0, 1) := by decide +kernel
theorem dX11_current_1 : decode cX11_current 1 = .ok (.getfield 13, 3) := by decide +kernel
theorem dX11_current_4 : decode cX11_current 4 = .ok (.bipush 11, 2) := by decide +kernel
theorem dX11_current_6 : decode cX11_current 6 = .ok (.iaload, 1) := by decide +kernel
theorem dX11_current_7 : decode cX11_current 7 = .ok (.iconst (-1), 1) := by decide +kernel
theorem dX11_current_8 : decode cX11_current 8 = .ok (.if_icmp .eq 27, 3) := by decide +kernel
theorem dX11_current_11 : decode cX11_current 11 = .ok (.aload_n 0, 1) := by decide +kernel
theorem dX11_current_12 : decode cX11_current 12 = .ok (.aload_n 0, 1) := by decide +kernel
theorem dX11_current_13 : decode cX11_current 13 = .ok (.getfield 13, 3) := by decide +kernel
theorem dX11_current_16 : decode cX11_current 16 = .ok (.bipush 11, 2) := by decide +kernel
theorem dX11_current_18 : decode cX11_current 18 = .ok (.iaload, 1) := by decide +kernel
theorem dX11_current_19 : decode cX11_current 19 = .ok (.invokevirtual 95, 3) := by decide +kernel
theorem dX11_current_22 : decode cX11_current 22 = .ok (.ifCond .ne 13, 3) := by decide +kernel
theorem dX11_current_25 : decode cX11_current 25 = .ok (.aload_n 0, 1) := by decide +kernel
theorem dX11_current_26 : decode cX11_current 26 = .ok (.getfield 13, 3) := by decide +kernel
theorem dX11_current_29 : decode cX11_current 29 = .ok (.bipush 11, 2) := by decide +kernel
theorem dX11_current_31 : decode cX11_current 31 = .ok (.iaload, 1) := by decide +kernel
theorem dX11_current_32 : decode cX11_current 32 = .ok (.goto 4, 3) := by decide +kernel
theorem dX11_current_35 : decode cX11_current 35 = .ok (.iconst (-1), 1) := by decide +kernel
theorem dX11_current_36 : decode cX11_current 36 = .ok (.ireturn, 1) := by decide +kernel
theorem dX11_waited_0 : decode cX11_waited 0 = .ok (.aload_n 0, 1) := by decide +kernel
theorem dX11_waited_1 : decode cX11_waited 1 = .ok (.iload_n 1, 1) := by decide +kernel
theorem dX11_waited_2 : decode cX11_waited 2 = .ok (.invokevirtual 91, 3) := by decide +kernel
theorem dX11_waited_5 : decode cX11_waited 5 = .ok (.ifCond .ne 5, 3) := by decide +kernel
theorem dX11_waited_8 : decode cX11_waited 8 = .ok (.iconst 0, 1) := by decide +kernel
theorem dX11_waited_9 : decode cX11_waited 9 = .ok (.ireturn, 1) := by decide +kernel
theorem dX11_waited_10 : decode cX11_waited 10 = .ok (.aload_n 0, 1) := by decide +kernel
theorem dX11_waited_11 : decode cX11_waited 11 = .ok (.iload_n 1, 1) := by decide +kernel
theorem dX11_waited_12 : decode cX11_waited 12 = .ok (.invokevirtual 95, 3) := by decide +kernel
theorem dX11_waited_15 : decode cX11_waited 15 = .ok (.ifCond .eq 13, 3) := by decide +kernel
theorem dX11_waited_18 : decode cX11_waited 18 = .ok (.aload_n 0, 1) := by decide +kernel
theorem dX11_waited_19 : decode cX11_waited 19 = .ok (.iload_n 1, 1) := by decide +kernel
theorem dX11_waited_20 : decode cX11_waited 20 = .ok (.bipush 6, 2) := by decide +kernel
theorem dX11_waited_22 : decode cX11_waited 22 = .ok (.invokevirtual 87, 3) := by decide +kernel
theorem dX11_waited_25 : decode cX11_waited 25 = .ok (.goto 10, 3) := by decide +kernel
theorem dX11_waited_28 : decode cX11_waited 28 = .ok (.aload_n 0, 1) := by decide +kernel
theorem dX11_waited_29 : decode cX11_waited 29 = .ok (.getfield 13, 3) := by decide +kernel
theorem dX11_waited_32 : decode cX11_waited 32 = .ok (.bipush 9, 2) := by decide +kernel
theorem dX11_waited_34 : decode cX11_waited 34 = .ok (.iaload, 1) := by decide +kernel
theorem dX11_waited_35 : decode cX11_waited 35 = .ok (.istore_n 2, 1) := by decide +kernel
theorem dX11_waited_36 : decode cX11_waited 36 = .ok (.iload_n 2, 1) := by decide +kernel
theorem dX11_waited_37 : decode cX11_waited 37 = .ok (.aload_n 0, 1) := by decide +kernel
theorem dX11_waited_38 : decode cX11_waited 38 = .ok (.iload_n 1, 1) := by decide +kernel
theorem dX11_waited_39 : decode cX11_waited 39 = .ok (.iconst 2, 1) := by decide +kernel
theorem dX11_waited_40 : decode cX11_waited 40 = .ok (.invokevirtual 87, 3) := by decide +kernel
theorem dX11_waited_43 : decode cX11_waited 43 = .ok (.isub, 1) := by decide +kernel
theorem dX11_waited_44 : decode cX11_waited 44 = .ok (.aload_n 0, 1) := by decide +kernel
theorem dX11_waited_45 : decode cX11_waited 45 = .ok (.iload_n 1, 1) := by decide +kernel
theorem dX11_waited_46 : decode cX11_waited 46 = .ok (.bipush 7, 2) := by decide +kernel
theorem dX11_waited_48 : decode cX11_waited 48 = .ok (.invokevirtual 87, 3) := by decide +kernel
theorem dX11_waited_51 : decode cX11_waited 51 = .ok (.isub, 1) := by decide +kernel
theorem dX11_waited_52 : decode cX11_waited 52 = .ok (.ireturn, 1) := by decide +kernel
theorem dX11_urgency_0 : decode cX11_urgency 0 = .ok (.aload_n 0, 1) := by decide +kernel
theorem dX11_urgency_1 : decode cX11_urgency 1 = .ok (.iload_n 1, 1) := by decide +kernel
theorem dX11_urgency_2 : decode cX11_urgency 2 = .ok (.iconst 4, 1) := by decide +kernel
theorem dX11_urgency_3 : decode cX11_urgency 3 = .ok (.invokevirtual 87, 3) := by decide +kernel
theorem dX11_urgency_6 : decode cX11_urgency 6 = .ok (.aload_n 0, 1) := by decide +kernel
theorem dX11_urgency_7 : decode cX11_urgency 7 = .ok (.iload_n 1, 1) := by decide +kernel
theorem dX11_urgency_8 : decode cX11_urgency 8 = .ok (.invokevirtual 98, 3) := by decide +kernel
theorem dX11_urgency_11 : decode cX11_urgency 11 = .ok (.aload_n 0, 1) := by decide +kernel
theorem dX11_urgency_12 : decode cX11_urgency 12 = .ok (.getfield 13, 3) := by decide +kernel
theorem dX11_urgency_15 : decode cX11_urgency 15 = .ok (.iconst 5, 1) := by decide +kernel
theorem dX11_urgency_16 : decode cX11_urgency 16 = .ok (.iaload, 1) := by decide +kernel
theorem dX11_urgency_17 : decode cX11_urgency 17 = .ok (.idiv, 1) := by decide +kernel
theorem dX11_urgency_18 : decode cX11_urgency 18 = .ok (.iadd, 1) := by decide +kernel
theorem dX11_urgency_19 : decode cX11_urgency 19 = .ok (.ireturn, 1) := by decide +kernel
theorem dX11_isLate_0 : decode cX11_isLate 0 = .ok (.aload_n 0, 1) := by decide +kernel
theorem dX11_isLate_1 : decode cX11_isLate 1 = .ok (.iload_n 1, 1) := by decide +kernel
theorem dX11_isLate_2 : decode cX11_isLate 2 = .ok (.invokevirtual 95, 3) := by decide +kernel
theorem dX11_isLate_5 : decode cX11_isLate 5 = .ok (.ifCond .eq 23, 3) := by decide +kernel
theorem dX11_isLate_8 : decode cX11_isLate 8 = .ok (.aload_n 0, 1) := by decide +kernel
theorem dX11_isLate_9 : decode cX11_isLate 9 = .ok (.iload_n 1, 1) := by decide +kernel
theorem dX11_isLate_10 : decode cX11_isLate 10 = .ok (.bipush 6, 2) := by decide +kernel
theorem dX11_isLate_12 : decode cX11_isLate 12 = .ok (.invokevirtual 87, 3) := by decide +kernel
theorem dX11_isLate_15 : decode cX11_isLate 15 = .ok (.aload_n 0, 1) := by decide +kernel
theorem dX11_isLate_16 : decode cX11_isLate 16 = .ok (.iload_n 1, 1) := by decide +kernel
theorem dX11_isLate_17 : decode cX11_isLate 17 = .ok (.iconst 3, 1) := by decide +kernel
theorem dX11_isLate_18 : decode cX11_isLate 18 = .ok (.invokevirtual 87, 3) := by decide +kernel
theorem dX11_isLate_21 : decode cX11_isLate 21 = .ok (.if_icmp .le 7, 3) := by decide +kernel
theorem dX11_isLate_24 : decode cX11_isLate 24 = .ok (.iconst 1, 1) := by decide +kernel
theorem dX11_isLate_25 : decode cX11_isLate 25 = .ok (.goto 4, 3) := by decide +kernel
theorem dX11_isLate_28 : decode cX11_isLate 28 = .ok (.iconst 0, 1) := by decide +kernel
theorem dX11_isLate_29 : decode cX11_isLate 29 = .ok (.ireturn, 1) := by decide +kernel
theorem dX11_badness_0 : decode cX11_badness 0 = .ok (.iload_n 2, 1) := by decide +kernel
theorem dX11_badness_1 : decode cX11_badness 1 = .ok (.tableswitch 48 0 2 #[27, 34, 41], 27) := by decide +kernel
theorem dX11_badness_28 : decode cX11_badness 28 = .ok (.aload_n 0, 1) := by decide +kernel
theorem dX11_badness_29 : decode cX11_badness 29 = .ok (.iload_n 1, 1) := by decide +kernel
theorem dX11_badness_30 : decode cX11_badness 30 = .ok (.iconst 2, 1) := by decide +kernel
theorem dX11_badness_31 : decode cX11_badness 31 = .ok (.invokevirtual 87, 3) := by decide +kernel
theorem dX11_badness_34 : decode cX11_badness 34 = .ok (.ireturn, 1) := by decide +kernel
theorem dX11_badness_35 : decode cX11_badness 35 = .ok (.aload_n 0, 1) := by decide +kernel
theorem dX11_badness_36 : decode cX11_badness 36 = .ok (.iload_n 1, 1) := by decide +kernel
theorem dX11_badness_37 : decode cX11_badness 37 = .ok (.iconst 5, 1) := by decide +kernel
theorem dX11_badness_38 : decode cX11_badness 38 = .ok (.invokevirtual 87, 3) := by decide +kernel
theorem dX11_badness_41 : decode cX11_badness 41 = .ok (.ireturn, 1) := by decide +kernel
theorem dX11_badness_42 : decode cX11_badness 42 = .ok (.aload_n 0, 1) := by decide +kernel
theorem dX11_badness_43 : decode cX11_badness 43 = .ok (.iload_n 1, 1) := by decide +kernel
theorem dX11_badness_44 : decode cX11_badness 44 = .ok (.iconst 3, 1) := by decide +kernel
theorem dX11_badness_45 : decode cX11_badness 45 = .ok (.invokevirtual 87, 3) := by decide +kernel
theorem dX11_badness_48 : decode cX11_badness 48 = .ok (.ireturn, 1) := by decide +kernel
theorem dX11_badness_49 : decode cX11_badness 49 = .ok (.aload_n 0, 1) := by decide +kernel
theorem dX11_badness_50 : decode cX11_badness 50 = .ok (.iload_n 1, 1) := by decide +kernel
theorem dX11_badness_51 : decode cX11_badness 51 = .ok (.invokevirtual 102, 3) := by decide +kernel
theorem dX11_badness_54 : decode cX11_badness 54 = .ok (.ineg, 1) := by decide +kernel
theorem dX11_badness_55 : decode cX11_badness 55 = .ok (.ireturn, 1) := by decide +kernel
theorem dX11_best_0 : decode cX11_best 0 = .ok (.iconst (-1), 1) := by decide +kernel
theorem dX11_best_1 : decode cX11_best 1 = .ok (.istore_n 2, 1) := by decide +kernel
theorem dX11_best_2 : decode cX11_best 2 = .ok (.iconst 0, 1) := by decide +kernel
theorem dX11_best_3 : decode cX11_best 3 = .ok (.istore_n 3, 1) := by decide +kernel
theorem dX11_best_4 : decode cX11_best 4 = .ok (.iload_n 3, 1) := by decide +kernel
theorem dX11_best_5 : decode cX11_best 5 = .ok (.aload_n 0, 1) := by decide +kernel
theorem dX11_best_6 : decode cX11_best 6 = .ok (.getfield 13, 3) := by decide +kernel
theorem dX11_best_9 : decode cX11_best 9 = .ok (.bipush 8, 2) := by decide +kernel
theorem dX11_best_11 : decode cX11_best 11 = .ok (.iaload, 1) := by decide +kernel
theorem dX11_best_12 : decode cX11_best 12 = .ok (.if_icmp .ge 39, 3) := by decide +kernel
theorem dX11_best_15 : decode cX11_best 15 = .ok (.aload_n 0, 1) := by decide +kernel
theorem dX11_best_16 : decode cX11_best 16 = .ok (.iload_n 3, 1) := by decide +kernel
theorem dX11_best_17 : decode cX11_best 17 = .ok (.invokevirtual 105, 3) := by decide +kernel
theorem dX11_best_20 : decode cX11_best 20 = .ok (.ifCond .eq 25, 3) := by decide +kernel
theorem dX11_best_23 : decode cX11_best 23 = .ok (.iload_n 2, 1) := by decide +kernel
theorem dX11_best_24 : decode cX11_best 24 = .ok (.iconst (-1), 1) := by decide +kernel
theorem dX11_best_25 : decode cX11_best 25 = .ok (.if_icmp .eq 18, 3) := by decide +kernel
theorem dX11_best_28 : decode cX11_best 28 = .ok (.aload_n 0, 1) := by decide +kernel
theorem dX11_best_29 : decode cX11_best 29 = .ok (.iload_n 3, 1) := by decide +kernel
theorem dX11_best_30 : decode cX11_best 30 = .ok (.iload_n 1, 1) := by decide +kernel
theorem dX11_best_31 : decode cX11_best 31 = .ok (.invokevirtual 108, 3) := by decide +kernel
theorem dX11_best_34 : decode cX11_best 34 = .ok (.aload_n 0, 1) := by decide +kernel
theorem dX11_best_35 : decode cX11_best 35 = .ok (.iload_n 2, 1) := by decide +kernel
theorem dX11_best_36 : decode cX11_best 36 = .ok (.iload_n 1, 1) := by decide +kernel
theorem dX11_best_37 : decode cX11_best 37 = .ok (.invokevirtual 108, 3) := by decide +kernel
theorem dX11_best_40 : decode cX11_best 40 = .ok (.if_icmp .ge 5, 3) := by decide +kernel
theorem dX11_best_43 : decode cX11_best 43 = .ok (.iload_n 3, 1) := by decide +kernel
theorem dX11_best_44 : decode cX11_best 44 = .ok (.istore_n 2, 1) := by decide +kernel
theorem dX11_best_45 : decode cX11_best 45 = .ok (.iinc 3 1, 3) := by decide +kernel
theorem dX11_best_48 : decode cX11_best 48 = .ok (.goto (-44), 3) := by decide +kernel
theorem dX11_best_51 : decode cX11_best 51 = .ok (.iload_n 2, 1) := by decide +kernel
theorem dX11_best_52 : decode cX11_best 52 = .ok (.ireturn, 1) := by decide +kernel
theorem dX11_nextInTurn_0 : decode cX11_nextInTurn 0 = .ok (.iconst 1, 1) := by decide +kernel
theorem dX11_nextInTurn_1 : decode cX11_nextInTurn 1 = .ok (.istore_n 1, 1) := by decide +kernel
theorem dX11_nextInTurn_2 : decode cX11_nextInTurn 2 = .ok (.iload_n 1, 1) := by decide +kernel
theorem dX11_nextInTurn_3 : decode cX11_nextInTurn 3 = .ok (.aload_n 0, 1) := by decide +kernel
theorem dX11_nextInTurn_4 : decode cX11_nextInTurn 4 = .ok (.getfield 13, 3) := by decide +kernel
theorem dX11_nextInTurn_7 : decode cX11_nextInTurn 7 = .ok (.bipush 8, 2) := by decide +kernel
theorem dX11_nextInTurn_9 : decode cX11_nextInTurn 9 = .ok (.iaload, 1) := by decide +kernel
theorem dX11_nextInTurn_10 : decode cX11_nextInTurn 10 = .ok (.if_icmp .gt 37, 3) := by decide +kernel
theorem dX11_nextInTurn_13 : decode cX11_nextInTurn 13 = .ok (.aload_n 0, 1) := by decide +kernel
theorem dX11_nextInTurn_14 : decode cX11_nextInTurn 14 = .ok (.getfield 13, 3) := by decide +kernel
theorem dX11_nextInTurn_17 : decode cX11_nextInTurn 17 = .ok (.bipush 11, 2) := by decide +kernel
theorem dX11_nextInTurn_19 : decode cX11_nextInTurn 19 = .ok (.iaload, 1) := by decide +kernel
theorem dX11_nextInTurn_20 : decode cX11_nextInTurn 20 = .ok (.iload_n 1, 1) := by decide +kernel
theorem dX11_nextInTurn_21 : decode cX11_nextInTurn 21 = .ok (.iadd, 1) := by decide +kernel
theorem dX11_nextInTurn_22 : decode cX11_nextInTurn 22 = .ok (.aload_n 0, 1) := by decide +kernel
theorem dX11_nextInTurn_23 : decode cX11_nextInTurn 23 = .ok (.getfield 13, 3) := by decide +kernel
theorem dX11_nextInTurn_26 : decode cX11_nextInTurn 26 = .ok (.bipush 8, 2) := by decide +kernel
theorem dX11_nextInTurn_28 : decode cX11_nextInTurn 28 = .ok (.iaload, 1) := by decide +kernel
theorem dX11_nextInTurn_29 : decode cX11_nextInTurn 29 = .ok (.irem, 1) := by decide +kernel
theorem dX11_nextInTurn_30 : decode cX11_nextInTurn 30 = .ok (.istore_n 2, 1) := by decide +kernel
theorem dX11_nextInTurn_31 : decode cX11_nextInTurn 31 = .ok (.aload_n 0, 1) := by decide +kernel
theorem dX11_nextInTurn_32 : decode cX11_nextInTurn 32 = .ok (.iload_n 2, 1) := by decide +kernel
theorem dX11_nextInTurn_33 : decode cX11_nextInTurn 33 = .ok (.invokevirtual 105, 3) := by decide +kernel
theorem dX11_nextInTurn_36 : decode cX11_nextInTurn 36 = .ok (.ifCond .eq 5, 3) := by decide +kernel
theorem dX11_nextInTurn_39 : decode cX11_nextInTurn 39 = .ok (.iload_n 2, 1) := by decide +kernel
theorem dX11_nextInTurn_40 : decode cX11_nextInTurn 40 = .ok (.ireturn, 1) := by decide +kernel
theorem dX11_nextInTurn_41 : decode cX11_nextInTurn 41 = .ok (.iinc 1 1, 3) := by decide +kernel
theorem dX11_nextInTurn_44 : decode cX11_nextInTurn 44 = .ok (.goto (-42), 3) := by decide +kernel
theorem dX11_nextInTurn_47 : decode cX11_nextInTurn 47 = .ok (.iconst (-1), 1) := by decide +kernel
theorem dX11_nextInTurn_48 : decode cX11_nextInTurn 48 = .ok (.ireturn, 1) := by decide +kernel
theorem dX11_select_0 : decode cX11_select 0 = .ok (.aload_n 0, 1) := by decide +kernel
theorem dX11_select_1 : decode cX11_select 1 = .ok (.invokevirtual 111, 3) := by decide +kernel
theorem dX11_select_4 : decode cX11_select 4 = .ok (.istore_n 2, 1) := by decide +kernel
theorem dX11_select_5 : decode cX11_select 5 = .ok (.iload_n 1, 1) := by decide +kernel
theorem dX11_select_6 : decode cX11_select 6 = .ok (.tableswitch 79 0 4 #[34, 79, 79, 34, 49], 34) := by decide +kernel
theorem dX11_select_40 : decode cX11_select 40 = .ok (.iload_n 2, 1) := by decide +kernel
theorem dX11_select_41 : decode cX11_select 41 = .ok (.iconst (-1), 1) := by decide +kernel
theorem dX11_select_42 : decode cX11_select 42 = .ok (.if_icmp .eq 7, 3) := by decide +kernel
theorem dX11_select_45 : decode cX11_select 45 = .ok (.iload_n 2, 1) := by decide +kernel
theorem dX11_select_46 : decode cX11_select 46 = .ok (.goto 8, 3) := by decide +kernel
theorem dX11_select_49 : decode cX11_select 49 = .ok (.aload_n 0, 1) := by decide +kernel
theorem dX11_select_50 : decode cX11_select 50 = .ok (.iload_n 1, 1) := by decide +kernel
theorem dX11_select_51 : decode cX11_select 51 = .ok (.invokevirtual 114, 3) := by decide +kernel
theorem dX11_select_54 : decode cX11_select 54 = .ok (.ireturn, 1) := by decide +kernel
theorem dX11_select_55 : decode cX11_select 55 = .ok (.iload_n 2, 1) := by decide +kernel
theorem dX11_select_56 : decode cX11_select 56 = .ok (.iconst (-1), 1) := by decide +kernel
theorem dX11_select_57 : decode cX11_select 57 = .ok (.if_icmp .eq 23, 3) := by decide +kernel
theorem dX11_select_60 : decode cX11_select 60 = .ok (.aload_n 0, 1) := by decide +kernel
theorem dX11_select_61 : decode cX11_select 61 = .ok (.getfield 13, 3) := by decide +kernel
theorem dX11_select_64 : decode cX11_select 64 = .ok (.bipush 12, 2) := by decide +kernel
theorem dX11_select_66 : decode cX11_select 66 = .ok (.iaload, 1) := by decide +kernel
theorem dX11_select_67 : decode cX11_select 67 = .ok (.aload_n 0, 1) := by decide +kernel
theorem dX11_select_68 : decode cX11_select 68 = .ok (.getfield 13, 3) := by decide +kernel
theorem dX11_select_71 : decode cX11_select 71 = .ok (.iconst 4, 1) := by decide +kernel
theorem dX11_select_72 : decode cX11_select 72 = .ok (.iaload, 1) := by decide +kernel
theorem dX11_select_73 : decode cX11_select 73 = .ok (.if_icmp .ge 7, 3) := by decide +kernel
theorem dX11_select_76 : decode cX11_select 76 = .ok (.iload_n 2, 1) := by decide +kernel
theorem dX11_select_77 : decode cX11_select 77 = .ok (.goto 7, 3) := by decide +kernel
theorem dX11_select_80 : decode cX11_select 80 = .ok (.aload_n 0, 1) := by decide +kernel
theorem dX11_select_81 : decode cX11_select 81 = .ok (.invokevirtual 117, 3) := by decide +kernel
theorem dX11_select_84 : decode cX11_select 84 = .ok (.ireturn, 1) := by decide +kernel
theorem dX11_select_85 : decode cX11_select 85 = .ok (.aload_n 0, 1) := by decide +kernel
theorem dX11_select_86 : decode cX11_select 86 = .ok (.iload_n 1, 1) := by decide +kernel
theorem dX11_select_87 : decode cX11_select 87 = .ok (.invokevirtual 114, 3) := by decide +kernel
theorem dX11_select_90 : decode cX11_select 90 = .ok (.istore_n 3, 1) := by decide +kernel
theorem dX11_select_91 : decode cX11_select 91 = .ok (.iload_n 2, 1) := by decide +kernel
theorem dX11_select_92 : decode cX11_select 92 = .ok (.iconst (-1), 1) := by decide +kernel
theorem dX11_select_93 : decode cX11_select 93 = .ok (.if_icmp .eq 22, 3) := by decide +kernel
theorem dX11_select_96 : decode cX11_select 96 = .ok (.aload_n 0, 1) := by decide +kernel
theorem dX11_select_97 : decode cX11_select 97 = .ok (.iload_n 2, 1) := by decide +kernel
theorem dX11_select_98 : decode cX11_select 98 = .ok (.iload_n 1, 1) := by decide +kernel
theorem dX11_select_99 : decode cX11_select 99 = .ok (.invokevirtual 108, 3) := by decide +kernel
theorem dX11_select_102 : decode cX11_select 102 = .ok (.aload_n 0, 1) := by decide +kernel
theorem dX11_select_103 : decode cX11_select 103 = .ok (.iload_n 3, 1) := by decide +kernel
theorem dX11_select_104 : decode cX11_select 104 = .ok (.iload_n 1, 1) := by decide +kernel
theorem dX11_select_105 : decode cX11_select 105 = .ok (.invokevirtual 108, 3) := by decide +kernel
theorem dX11_select_108 : decode cX11_select 108 = .ok (.if_icmp .gt 7, 3) := by decide +kernel
theorem dX11_select_111 : decode cX11_select 111 = .ok (.iload_n 2, 1) := by decide +kernel
theorem dX11_select_112 : decode cX11_select 112 = .ok (.goto 4, 3) := by decide +kernel
theorem dX11_select_115 : decode cX11_select 115 = .ok (.iload_n 3, 1) := by decide +kernel
theorem dX11_select_116 : decode cX11_select 116 = .ok (.ireturn, 1) := by decide +kernel
theorem dX11_refill_0 : decode cX11_refill 0 = .ok (.aload_n 0, 1) := by decide +kernel
theorem dX11_refill_1 : decode cX11_refill 1 = .ok (.getfield 13, 3) := by decide +kernel
theorem dX11_refill_4 : decode cX11_refill 4 = .ok (.bipush 20, 2) := by decide +kernel
theorem dX11_refill_6 : decode cX11_refill 6 = .ok (.dup2, 1) := by decide +kernel
theorem dX11_refill_7 : decode cX11_refill 7 = .ok (.iaload, 1) := by decide +kernel
theorem dX11_refill_8 : decode cX11_refill 8 = .ok (.iconst 1, 1) := by decide +kernel
theorem dX11_refill_9 : decode cX11_refill 9 = .ok (.iadd, 1) := by decide +kernel
theorem dX11_refill_10 : decode cX11_refill 10 = .ok (.iastore, 1) := by decide +kernel
theorem dX11_refill_11 : decode cX11_refill 11 = .ok (.aload_n 0, 1) := by decide +kernel
theorem dX11_refill_12 : decode cX11_refill 12 = .ok (.getfield 13, 3) := by decide +kernel
theorem dX11_refill_15 : decode cX11_refill 15 = .ok (.bipush 14, 2) := by decide +kernel
theorem dX11_refill_17 : decode cX11_refill 17 = .ok (.dup2, 1) := by decide +kernel
theorem dX11_refill_18 : decode cX11_refill 18 = .ok (.iaload, 1) := by decide +kernel
theorem dX11_refill_19 : decode cX11_refill 19 = .ok (.iconst 1, 1) := by decide +kernel
theorem dX11_refill_20 : decode cX11_refill 20 = .ok (.isub, 1) := by decide +kernel
theorem dX11_refill_21 : decode cX11_refill 21 = .ok (.iastore, 1) := by decide +kernel
theorem dX11_refill_22 : decode cX11_refill 22 = .ok (.aload_n 0, 1) := by decide +kernel
theorem dX11_refill_23 : decode cX11_refill 23 = .ok (.getfield 13, 3) := by decide +kernel
theorem dX11_refill_26 : decode cX11_refill 26 = .ok (.bipush 14, 2) := by decide +kernel
theorem dX11_refill_28 : decode cX11_refill 28 = .ok (.iaload, 1) := by decide +kernel
theorem dX11_refill_29 : decode cX11_refill 29 = .ok (.ifCond .ne 16, 3) := by decide +kernel
theorem dX11_refill_32 : decode cX11_refill 32 = .ok (.aload_n 0, 1) := by decide +kernel
theorem dX11_refill_33 : decode cX11_refill 33 = .ok (.getfield 13, 3) := by decide +kernel
theorem dX11_refill_36 : decode cX11_refill 36 = .ok (.bipush 13, 2) := by decide +kernel
theorem dX11_refill_38 : decode cX11_refill 38 = .ok (.aload_n 0, 1) := by decide +kernel
theorem dX11_refill_39 : decode cX11_refill 39 = .ok (.getfield 13, 3) := by decide +kernel
theorem dX11_refill_42 : decode cX11_refill 42 = .ok (.iconst 2, 1) := by decide +kernel
theorem dX11_refill_43 : decode cX11_refill 43 = .ok (.iaload, 1) := by decide +kernel
theorem dX11_refill_44 : decode cX11_refill 44 = .ok (.iastore, 1) := by decide +kernel
theorem dX11_refill_45 : decode cX11_refill 45 = .ok (.return_, 1) := by decide +kernel
theorem dX11_write_0 : decode cX11_write 0 = .ok (.aload_n 0, 1) := by decide +kernel
theorem dX11_write_1 : decode cX11_write 1 = .ok (.invokevirtual 111, 3) := by decide +kernel
theorem dX11_write_4 : decode cX11_write 4 = .ok (.istore_n 2, 1) := by decide +kernel
theorem dX11_write_5 : decode cX11_write 5 = .ok (.iload_n 2, 1) := by decide +kernel
theorem dX11_write_6 : decode cX11_write 6 = .ok (.iconst (-1), 1) := by decide +kernel
theorem dX11_write_7 : decode cX11_write 7 = .ok (.if_icmp .eq 60, 3) := by decide +kernel
theorem dX11_write_10 : decode cX11_write 10 = .ok (.iload_n 2, 1) := by decide +kernel
theorem dX11_write_11 : decode cX11_write 11 = .ok (.iload_n 1, 1) := by decide +kernel
theorem dX11_write_12 : decode cX11_write 12 = .ok (.if_icmp .eq 55, 3) := by decide +kernel
theorem dX11_write_15 : decode cX11_write 15 = .ok (.aload_n 0, 1) := by decide +kernel
theorem dX11_write_16 : decode cX11_write 16 = .ok (.iload_n 2, 1) := by decide +kernel
theorem dX11_write_17 : decode cX11_write 17 = .ok (.iconst 5, 1) := by decide +kernel
theorem dX11_write_18 : decode cX11_write 18 = .ok (.invokevirtual 87, 3) := by decide +kernel
theorem dX11_write_21 : decode cX11_write 21 = .ok (.aload_n 0, 1) := by decide +kernel
theorem dX11_write_22 : decode cX11_write 22 = .ok (.getfield 13, 3) := by decide +kernel
theorem dX11_write_25 : decode cX11_write 25 = .ok (.bipush 6, 2) := by decide +kernel
theorem dX11_write_27 : decode cX11_write 27 = .ok (.iaload, 1) := by decide +kernel
theorem dX11_write_28 : decode cX11_write 28 = .ok (.iadd, 1) := by decide +kernel
theorem dX11_write_29 : decode cX11_write 29 = .ok (.istore_n 3, 1) := by decide +kernel
theorem dX11_write_30 : decode cX11_write 30 = .ok (.aload_n 0, 1) := by decide +kernel
theorem dX11_write_31 : decode cX11_write 31 = .ok (.iload_n 2, 1) := by decide +kernel
theorem dX11_write_32 : decode cX11_write 32 = .ok (.iconst 5, 1) := by decide +kernel
theorem dX11_write_33 : decode cX11_write 33 = .ok (.iload_n 3, 1) := by decide +kernel
theorem dX11_write_34 : decode cX11_write 34 = .ok (.aload_n 0, 1) := by decide +kernel
theorem dX11_write_35 : decode cX11_write 35 = .ok (.iload_n 2, 1) := by decide +kernel
theorem dX11_write_36 : decode cX11_write 36 = .ok (.iconst 1, 1) := by decide +kernel
theorem dX11_write_37 : decode cX11_write 37 = .ok (.invokevirtual 87, 3) := by decide +kernel
theorem dX11_write_40 : decode cX11_write 40 = .ok (.if_icmp .le 12, 3) := by decide +kernel
theorem dX11_write_43 : decode cX11_write 43 = .ok (.aload_n 0, 1) := by decide +kernel
theorem dX11_write_44 : decode cX11_write 44 = .ok (.iload_n 2, 1) := by decide +kernel
theorem dX11_write_45 : decode cX11_write 45 = .ok (.iconst 1, 1) := by decide +kernel
theorem dX11_write_46 : decode cX11_write 46 = .ok (.invokevirtual 87, 3) := by decide +kernel
theorem dX11_write_49 : decode cX11_write 49 = .ok (.goto 4, 3) := by decide +kernel
theorem dX11_write_52 : decode cX11_write 52 = .ok (.iload_n 3, 1) := by decide +kernel
theorem dX11_write_53 : decode cX11_write 53 = .ok (.invokevirtual 120, 3) := by decide +kernel
theorem dX11_write_56 : decode cX11_write 56 = .ok (.aload_n 0, 1) := by decide +kernel
theorem dX11_write_57 : decode cX11_write 57 = .ok (.getfield 13, 3) := by decide +kernel
theorem dX11_write_60 : decode cX11_write 60 = .ok (.bipush 16, 2) := by decide +kernel
theorem dX11_write_62 : decode cX11_write 62 = .ok (.dup2, 1) := by decide +kernel
theorem dX11_write_63 : decode cX11_write 63 = .ok (.iaload, 1) := by decide +kernel
theorem dX11_write_64 : decode cX11_write 64 = .ok (.iconst 1, 1) := by decide +kernel
theorem dX11_write_65 : decode cX11_write 65 = .ok (.iadd, 1) := by decide +kernel
theorem dX11_write_66 : decode cX11_write 66 = .ok (.iastore, 1) := by decide +kernel
theorem dX11_write_67 : decode cX11_write 67 = .ok (.iload_n 2, 1) := by decide +kernel
theorem dX11_write_68 : decode cX11_write 68 = .ok (.iload_n 1, 1) := by decide +kernel
theorem dX11_write_69 : decode cX11_write 69 = .ok (.if_icmp .ne 33, 3) := by decide +kernel
theorem dX11_write_72 : decode cX11_write 72 = .ok (.aload_n 0, 1) := by decide +kernel
theorem dX11_write_73 : decode cX11_write 73 = .ok (.getfield 13, 3) := by decide +kernel
theorem dX11_write_76 : decode cX11_write 76 = .ok (.iconst 0, 1) := by decide +kernel
theorem dX11_write_77 : decode cX11_write 77 = .ok (.iaload, 1) := by decide +kernel
theorem dX11_write_78 : decode cX11_write 78 = .ok (.iconst 4, 1) := by decide +kernel
theorem dX11_write_79 : decode cX11_write 79 = .ok (.if_icmp .ne 19, 3) := by decide +kernel
theorem dX11_write_82 : decode cX11_write 82 = .ok (.aload_n 0, 1) := by decide +kernel
theorem dX11_write_83 : decode cX11_write 83 = .ok (.getfield 13, 3) := by decide +kernel
theorem dX11_write_86 : decode cX11_write 86 = .ok (.bipush 12, 2) := by decide +kernel
theorem dX11_write_88 : decode cX11_write 88 = .ok (.iaload, 1) := by decide +kernel
theorem dX11_write_89 : decode cX11_write 89 = .ok (.aload_n 0, 1) := by decide +kernel
theorem dX11_write_90 : decode cX11_write 90 = .ok (.getfield 13, 3) := by decide +kernel
theorem dX11_write_93 : decode cX11_write 93 = .ok (.iconst 4, 1) := by decide +kernel
theorem dX11_write_94 : decode cX11_write 94 = .ok (.iaload, 1) := by decide +kernel
theorem dX11_write_95 : decode cX11_write 95 = .ok (.if_icmp .ge 7, 3) := by decide +kernel
theorem dX11_write_98 : decode cX11_write 98 = .ok (.iconst 1, 1) := by decide +kernel
theorem dX11_write_99 : decode cX11_write 99 = .ok (.goto 4, 3) := by decide +kernel
theorem dX11_write_102 : decode cX11_write 102 = .ok (.iconst 0, 1) := by decide +kernel
theorem dX11_write_103 : decode cX11_write 103 = .ok (.istore_n 3, 1) := by decide +kernel
theorem dX11_write_104 : decode cX11_write 104 = .ok (.aload_n 0, 1) := by decide +kernel
theorem dX11_write_105 : decode cX11_write 105 = .ok (.getfield 13, 3) := by decide +kernel
theorem dX11_write_108 : decode cX11_write 108 = .ok (.bipush 12, 2) := by decide +kernel
theorem dX11_write_110 : decode cX11_write 110 = .ok (.iload_n 3, 1) := by decide +kernel
theorem dX11_write_111 : decode cX11_write 111 = .ok (.ifCond .eq 15, 3) := by decide +kernel
theorem dX11_write_114 : decode cX11_write 114 = .ok (.aload_n 0, 1) := by decide +kernel
theorem dX11_write_115 : decode cX11_write 115 = .ok (.getfield 13, 3) := by decide +kernel
theorem dX11_write_118 : decode cX11_write 118 = .ok (.bipush 12, 2) := by decide +kernel
theorem dX11_write_120 : decode cX11_write 120 = .ok (.iaload, 1) := by decide +kernel
theorem dX11_write_121 : decode cX11_write 121 = .ok (.iconst 1, 1) := by decide +kernel
theorem dX11_write_122 : decode cX11_write 122 = .ok (.iadd, 1) := by decide +kernel
theorem dX11_write_123 : decode cX11_write 123 = .ok (.goto 4, 3) := by decide +kernel
theorem dX11_write_126 : decode cX11_write 126 = .ok (.iconst 1, 1) := by decide +kernel
theorem dX11_write_127 : decode cX11_write 127 = .ok (.iastore, 1) := by decide +kernel
theorem dX11_write_128 : decode cX11_write 128 = .ok (.aload_n 0, 1) := by decide +kernel
theorem dX11_write_129 : decode cX11_write 129 = .ok (.getfield 13, 3) := by decide +kernel
theorem dX11_write_132 : decode cX11_write 132 = .ok (.bipush 11, 2) := by decide +kernel
theorem dX11_write_134 : decode cX11_write 134 = .ok (.iload_n 1, 1) := by decide +kernel
theorem dX11_write_135 : decode cX11_write 135 = .ok (.iastore, 1) := by decide +kernel
theorem dX11_write_136 : decode cX11_write 136 = .ok (.aload_n 0, 1) := by decide +kernel
theorem dX11_write_137 : decode cX11_write 137 = .ok (.iload_n 1, 1) := by decide +kernel
theorem dX11_write_138 : decode cX11_write 138 = .ok (.iconst 5, 1) := by decide +kernel
theorem dX11_write_139 : decode cX11_write 139 = .ok (.aload_n 0, 1) := by decide +kernel
theorem dX11_write_140 : decode cX11_write 140 = .ok (.iload_n 1, 1) := by decide +kernel
theorem dX11_write_141 : decode cX11_write 141 = .ok (.iconst 5, 1) := by decide +kernel
theorem dX11_write_142 : decode cX11_write 142 = .ok (.invokevirtual 87, 3) := by decide +kernel
theorem dX11_write_145 : decode cX11_write 145 = .ok (.iconst 1, 1) := by decide +kernel
theorem dX11_write_146 : decode cX11_write 146 = .ok (.isub, 1) := by decide +kernel
theorem dX11_write_147 : decode cX11_write 147 = .ok (.invokevirtual 120, 3) := by decide +kernel
theorem dX11_write_150 : decode cX11_write 150 = .ok (.aload_n 0, 1) := by decide +kernel
theorem dX11_write_151 : decode cX11_write 151 = .ok (.iload_n 1, 1) := by decide +kernel
theorem dX11_write_152 : decode cX11_write 152 = .ok (.bipush 7, 2) := by decide +kernel
theorem dX11_write_154 : decode cX11_write 154 = .ok (.aload_n 0, 1) := by decide +kernel
theorem dX11_write_155 : decode cX11_write 155 = .ok (.iload_n 1, 1) := by decide +kernel
theorem dX11_write_156 : decode cX11_write 156 = .ok (.bipush 7, 2) := by decide +kernel
theorem dX11_write_158 : decode cX11_write 158 = .ok (.invokevirtual 87, 3) := by decide +kernel
theorem dX11_write_161 : decode cX11_write 161 = .ok (.iconst 1, 1) := by decide +kernel
theorem dX11_write_162 : decode cX11_write 162 = .ok (.iadd, 1) := by decide +kernel
theorem dX11_write_163 : decode cX11_write 163 = .ok (.invokevirtual 120, 3) := by decide +kernel
theorem dX11_write_166 : decode cX11_write 166 = .ok (.aload_n 0, 1) := by decide +kernel
theorem dX11_write_167 : decode cX11_write 167 = .ok (.getfield 13, 3) := by decide +kernel
theorem dX11_write_170 : decode cX11_write 170 = .ok (.bipush 18, 2) := by decide +kernel
theorem dX11_write_172 : decode cX11_write 172 = .ok (.dup2, 1) := by decide +kernel
theorem dX11_write_173 : decode cX11_write 173 = .ok (.iaload, 1) := by decide +kernel
theorem dX11_write_174 : decode cX11_write 174 = .ok (.iconst 1, 1) := by decide +kernel
theorem dX11_write_175 : decode cX11_write 175 = .ok (.iadd, 1) := by decide +kernel
theorem dX11_write_176 : decode cX11_write 176 = .ok (.iastore, 1) := by decide +kernel
theorem dX11_write_177 : decode cX11_write 177 = .ok (.aload_n 0, 1) := by decide +kernel
theorem dX11_write_178 : decode cX11_write 178 = .ok (.iload_n 1, 1) := by decide +kernel
theorem dX11_write_179 : decode cX11_write 179 = .ok (.invokevirtual 95, 3) := by decide +kernel
theorem dX11_write_182 : decode cX11_write 182 = .ok (.ifCond .eq 19, 3) := by decide +kernel
theorem dX11_write_185 : decode cX11_write 185 = .ok (.aload_n 0, 1) := by decide +kernel
theorem dX11_write_186 : decode cX11_write 186 = .ok (.iload_n 1, 1) := by decide +kernel
theorem dX11_write_187 : decode cX11_write 187 = .ok (.bipush 6, 2) := by decide +kernel
theorem dX11_write_189 : decode cX11_write 189 = .ok (.aload_n 0, 1) := by decide +kernel
theorem dX11_write_190 : decode cX11_write 190 = .ok (.getfield 13, 3) := by decide +kernel
theorem dX11_write_193 : decode cX11_write 193 = .ok (.bipush 9, 2) := by decide +kernel
theorem dX11_write_195 : decode cX11_write 195 = .ok (.iaload, 1) := by decide +kernel
theorem dX11_write_196 : decode cX11_write 196 = .ok (.iconst 1, 1) := by decide +kernel
theorem dX11_write_197 : decode cX11_write 197 = .ok (.iadd, 1) := by decide +kernel
theorem dX11_write_198 : decode cX11_write 198 = .ok (.invokevirtual 120, 3) := by decide +kernel
theorem dX11_write_201 : decode cX11_write 201 = .ok (.aload_n 0, 1) := by decide +kernel
theorem dX11_write_202 : decode cX11_write 202 = .ok (.getfield 13, 3) := by decide +kernel
theorem dX11_write_205 : decode cX11_write 205 = .ok (.bipush 13, 2) := by decide +kernel
theorem dX11_write_207 : decode cX11_write 207 = .ok (.dup2, 1) := by decide +kernel
theorem dX11_write_208 : decode cX11_write 208 = .ok (.iaload, 1) := by decide +kernel
theorem dX11_write_209 : decode cX11_write 209 = .ok (.iconst 1, 1) := by decide +kernel
theorem dX11_write_210 : decode cX11_write 210 = .ok (.isub, 1) := by decide +kernel
theorem dX11_write_211 : decode cX11_write 211 = .ok (.iastore, 1) := by decide +kernel
theorem dX11_write_212 : decode cX11_write 212 = .ok (.aload_n 0, 1) := by decide +kernel
theorem dX11_write_213 : decode cX11_write 213 = .ok (.getfield 13, 3) := by decide +kernel
theorem dX11_write_216 : decode cX11_write 216 = .ok (.bipush 13, 2) := by decide +kernel
theorem dX11_write_218 : decode cX11_write 218 = .ok (.iaload, 1) := by decide +kernel
theorem dX11_write_219 : decode cX11_write 219 = .ok (.ifCond .le 4, 3) := by decide +kernel
theorem dX11_write_222 : decode cX11_write 222 = .ok (.return_, 1) := by decide +kernel
theorem dX11_write_223 : decode cX11_write 223 = .ok (.aload_n 0, 1) := by decide +kernel
theorem dX11_write_224 : decode cX11_write 224 = .ok (.getfield 13, 3) := by decide +kernel
theorem dX11_write_227 : decode cX11_write 227 = .ok (.bipush 14, 2) := by decide +kernel
theorem dX11_write_229 : decode cX11_write 229 = .ok (.aload_n 0, 1) := by decide +kernel
theorem dX11_write_230 : decode cX11_write 230 = .ok (.getfield 13, 3) := by decide +kernel
theorem dX11_write_233 : decode cX11_write 233 = .ok (.iconst 3, 1) := by decide +kernel
theorem dX11_write_234 : decode cX11_write 234 = .ok (.iaload, 1) := by decide +kernel
theorem dX11_write_235 : decode cX11_write 235 = .ok (.iastore, 1) := by decide +kernel
theorem dX11_write_236 : decode cX11_write 236 = .ok (.aload_n 0, 1) := by decide +kernel
theorem dX11_write_237 : decode cX11_write 237 = .ok (.getfield 13, 3) := by decide +kernel
theorem dX11_write_240 : decode cX11_write 240 = .ok (.bipush 14, 2) := by decide +kernel
theorem dX11_write_242 : decode cX11_write 242 = .ok (.iaload, 1) := by decide +kernel
theorem dX11_write_243 : decode cX11_write 243 = .ok (.ifCond .ne 16, 3) := by decide +kernel
theorem dX11_write_246 : decode cX11_write 246 = .ok (.aload_n 0, 1) := by decide +kernel
theorem dX11_write_247 : decode cX11_write 247 = .ok (.getfield 13, 3) := by decide +kernel
theorem dX11_write_250 : decode cX11_write 250 = .ok (.bipush 13, 2) := by decide +kernel
theorem dX11_write_252 : decode cX11_write 252 = .ok (.aload_n 0, 1) := by decide +kernel
theorem dX11_write_253 : decode cX11_write 253 = .ok (.getfield 13, 3) := by decide +kernel
theorem dX11_write_256 : decode cX11_write 256 = .ok (.iconst 2, 1) := by decide +kernel
theorem dX11_write_257 : decode cX11_write 257 = .ok (.iaload, 1) := by decide +kernel
theorem dX11_write_258 : decode cX11_write 258 = .ok (.iastore, 1) := by decide +kernel
theorem dX11_write_259 : decode cX11_write 259 = .ok (.return_, 1) := by decide +kernel
theorem dX11_workOn_0 : decode cX11_workOn 0 = .ok (.aload_n 0, 1) := by decide +kernel
theorem dX11_workOn_1 : decode cX11_workOn 1 = .ok (.iload_n 1, 1) := by decide +kernel
theorem dX11_workOn_2 : decode cX11_workOn 2 = .ok (.iconst 0, 1) := by decide +kernel
theorem dX11_workOn_3 : decode cX11_workOn 3 = .ok (.invokevirtual 87, 3) := by decide +kernel
theorem dX11_workOn_6 : decode cX11_workOn 6 = .ok (.aload_n 0, 1) := by decide +kernel
theorem dX11_workOn_7 : decode cX11_workOn 7 = .ok (.getfield 13, 3) := by decide +kernel
theorem dX11_workOn_10 : decode cX11_workOn 10 = .ok (.bipush 10, 2) := by decide +kernel
theorem dX11_workOn_12 : decode cX11_workOn 12 = .ok (.iaload, 1) := by decide +kernel
theorem dX11_workOn_13 : decode cX11_workOn 13 = .ok (.if_icmp .eq 40, 3) := by decide +kernel
theorem dX11_workOn_16 : decode cX11_workOn 16 = .ok (.aload_n 0, 1) := by decide +kernel
theorem dX11_workOn_17 : decode cX11_workOn 17 = .ok (.getfield 13, 3) := by decide +kernel
theorem dX11_workOn_20 : decode cX11_workOn 20 = .ok (.bipush 10, 2) := by decide +kernel
theorem dX11_workOn_22 : decode cX11_workOn 22 = .ok (.aload_n 0, 1) := by decide +kernel
theorem dX11_workOn_23 : decode cX11_workOn 23 = .ok (.iload_n 1, 1) := by decide +kernel
theorem dX11_workOn_24 : decode cX11_workOn 24 = .ok (.iconst 0, 1) := by decide +kernel
theorem dX11_workOn_25 : decode cX11_workOn 25 = .ok (.invokevirtual 87, 3) := by decide +kernel
theorem dX11_workOn_28 : decode cX11_workOn 28 = .ok (.iastore, 1) := by decide +kernel
theorem dX11_workOn_29 : decode cX11_workOn 29 = .ok (.aload_n 0, 1) := by decide +kernel
theorem dX11_workOn_30 : decode cX11_workOn 30 = .ok (.getfield 13, 3) := by decide +kernel
theorem dX11_workOn_33 : decode cX11_workOn 33 = .ok (.bipush 17, 2) := by decide +kernel
theorem dX11_workOn_35 : decode cX11_workOn 35 = .ok (.dup2, 1) := by decide +kernel
theorem dX11_workOn_36 : decode cX11_workOn 36 = .ok (.iaload, 1) := by decide +kernel
theorem dX11_workOn_37 : decode cX11_workOn 37 = .ok (.iconst 1, 1) := by decide +kernel
theorem dX11_workOn_38 : decode cX11_workOn 38 = .ok (.iadd, 1) := by decide +kernel
theorem dX11_workOn_39 : decode cX11_workOn 39 = .ok (.iastore, 1) := by decide +kernel
theorem dX11_workOn_40 : decode cX11_workOn 40 = .ok (.aload_n 0, 1) := by decide +kernel
theorem dX11_workOn_41 : decode cX11_workOn 41 = .ok (.getfield 13, 3) := by decide +kernel
theorem dX11_workOn_44 : decode cX11_workOn 44 = .ok (.bipush 15, 2) := by decide +kernel
theorem dX11_workOn_46 : decode cX11_workOn 46 = .ok (.aload_n 0, 1) := by decide +kernel
theorem dX11_workOn_47 : decode cX11_workOn 47 = .ok (.getfield 13, 3) := by decide +kernel
theorem dX11_workOn_50 : decode cX11_workOn 50 = .ok (.iconst 1, 1) := by decide +kernel
theorem dX11_workOn_51 : decode cX11_workOn 51 = .ok (.iaload, 1) := by decide +kernel
theorem dX11_workOn_52 : decode cX11_workOn 52 = .ok (.iastore, 1) := by decide +kernel
theorem dX11_workOn_53 : decode cX11_workOn 53 = .ok (.aload_n 0, 1) := by decide +kernel
theorem dX11_workOn_54 : decode cX11_workOn 54 = .ok (.getfield 13, 3) := by decide +kernel
theorem dX11_workOn_57 : decode cX11_workOn 57 = .ok (.bipush 15, 2) := by decide +kernel
theorem dX11_workOn_59 : decode cX11_workOn 59 = .ok (.iaload, 1) := by decide +kernel
theorem dX11_workOn_60 : decode cX11_workOn 60 = .ok (.ifCond .le 28, 3) := by decide +kernel
theorem dX11_workOn_63 : decode cX11_workOn 63 = .ok (.aload_n 0, 1) := by decide +kernel
theorem dX11_workOn_64 : decode cX11_workOn 64 = .ok (.getfield 13, 3) := by decide +kernel
theorem dX11_workOn_67 : decode cX11_workOn 67 = .ok (.bipush 15, 2) := by decide +kernel
theorem dX11_workOn_69 : decode cX11_workOn 69 = .ok (.dup2, 1) := by decide +kernel
theorem dX11_workOn_70 : decode cX11_workOn 70 = .ok (.iaload, 1) := by decide +kernel
theorem dX11_workOn_71 : decode cX11_workOn 71 = .ok (.iconst 1, 1) := by decide +kernel
theorem dX11_workOn_72 : decode cX11_workOn 72 = .ok (.isub, 1) := by decide +kernel
theorem dX11_workOn_73 : decode cX11_workOn 73 = .ok (.iastore, 1) := by decide +kernel
theorem dX11_workOn_74 : decode cX11_workOn 74 = .ok (.aload_n 0, 1) := by decide +kernel
theorem dX11_workOn_75 : decode cX11_workOn 75 = .ok (.getfield 13, 3) := by decide +kernel
theorem dX11_workOn_78 : decode cX11_workOn 78 = .ok (.bipush 21, 2) := by decide +kernel
theorem dX11_workOn_80 : decode cX11_workOn 80 = .ok (.dup2, 1) := by decide +kernel
theorem dX11_workOn_81 : decode cX11_workOn 81 = .ok (.iaload, 1) := by decide +kernel
theorem dX11_workOn_82 : decode cX11_workOn 82 = .ok (.iconst 1, 1) := by decide +kernel
theorem dX11_workOn_83 : decode cX11_workOn 83 = .ok (.iadd, 1) := by decide +kernel
theorem dX11_workOn_84 : decode cX11_workOn 84 = .ok (.iastore, 1) := by decide +kernel
theorem dX11_workOn_85 : decode cX11_workOn 85 = .ok (.goto 8, 3) := by decide +kernel
theorem dX11_workOn_88 : decode cX11_workOn 88 = .ok (.aload_n 0, 1) := by decide +kernel
theorem dX11_workOn_89 : decode cX11_workOn 89 = .ok (.iload_n 1, 1) := by decide +kernel
theorem dX11_workOn_90 : decode cX11_workOn 90 = .ok (.invokevirtual 124, 3) := by decide +kernel
theorem dX11_workOn_93 : decode cX11_workOn 93 = .ok (.return_, 1) := by decide +kernel
theorem dX11_passMinute_0 : decode cX11_passMinute 0 = .ok (.aload_n 0, 1) := by decide +kernel
theorem dX11_passMinute_1 : decode cX11_passMinute 1 = .ok (.getfield 13, 3) := by decide +kernel
theorem dX11_passMinute_4 : decode cX11_passMinute 4 = .ok (.bipush 14, 2) := by decide +kernel
theorem dX11_passMinute_6 : decode cX11_passMinute 6 = .ok (.iaload, 1) := by decide +kernel
theorem dX11_passMinute_7 : decode cX11_passMinute 7 = .ok (.ifCond .le 10, 3) := by decide +kernel
theorem dX11_passMinute_10 : decode cX11_passMinute 10 = .ok (.aload_n 0, 1) := by decide +kernel
theorem dX11_passMinute_11 : decode cX11_passMinute 11 = .ok (.invokevirtual 128, 3) := by decide +kernel
theorem dX11_passMinute_14 : decode cX11_passMinute 14 = .ok (.goto 73, 3) := by decide +kernel
theorem dX11_passMinute_17 : decode cX11_passMinute 17 = .ok (.aload_n 0, 1) := by decide +kernel
theorem dX11_passMinute_18 : decode cX11_passMinute 18 = .ok (.getfield 13, 3) := by decide +kernel
theorem dX11_passMinute_21 : decode cX11_passMinute 21 = .ok (.bipush 15, 2) := by decide +kernel
theorem dX11_passMinute_23 : decode cX11_passMinute 23 = .ok (.iaload, 1) := by decide +kernel
theorem dX11_passMinute_24 : decode cX11_passMinute 24 = .ok (.ifCond .le 28, 3) := by decide +kernel
theorem dX11_passMinute_27 : decode cX11_passMinute 27 = .ok (.aload_n 0, 1) := by decide +kernel
theorem dX11_passMinute_28 : decode cX11_passMinute 28 = .ok (.getfield 13, 3) := by decide +kernel
theorem dX11_passMinute_31 : decode cX11_passMinute 31 = .ok (.bipush 15, 2) := by decide +kernel
theorem dX11_passMinute_33 : decode cX11_passMinute 33 = .ok (.dup2, 1) := by decide +kernel
theorem dX11_passMinute_34 : decode cX11_passMinute 34 = .ok (.iaload, 1) := by decide +kernel
theorem dX11_passMinute_35 : decode cX11_passMinute 35 = .ok (.iconst 1, 1) := by decide +kernel
theorem dX11_passMinute_36 : decode cX11_passMinute 36 = .ok (.isub, 1) := by decide +kernel
theorem dX11_passMinute_37 : decode cX11_passMinute 37 = .ok (.iastore, 1) := by decide +kernel
theorem dX11_passMinute_38 : decode cX11_passMinute 38 = .ok (.aload_n 0, 1) := by decide +kernel
theorem dX11_passMinute_39 : decode cX11_passMinute 39 = .ok (.getfield 13, 3) := by decide +kernel
theorem dX11_passMinute_42 : decode cX11_passMinute 42 = .ok (.bipush 21, 2) := by decide +kernel
theorem dX11_passMinute_44 : decode cX11_passMinute 44 = .ok (.dup2, 1) := by decide +kernel
theorem dX11_passMinute_45 : decode cX11_passMinute 45 = .ok (.iaload, 1) := by decide +kernel
theorem dX11_passMinute_46 : decode cX11_passMinute 46 = .ok (.iconst 1, 1) := by decide +kernel
theorem dX11_passMinute_47 : decode cX11_passMinute 47 = .ok (.iadd, 1) := by decide +kernel
theorem dX11_passMinute_48 : decode cX11_passMinute 48 = .ok (.iastore, 1) := by decide +kernel
theorem dX11_passMinute_49 : decode cX11_passMinute 49 = .ok (.goto 38, 3) := by decide +kernel
theorem dX11_passMinute_52 : decode cX11_passMinute 52 = .ok (.aload_n 0, 1) := by decide +kernel
theorem dX11_passMinute_53 : decode cX11_passMinute 53 = .ok (.aload_n 0, 1) := by decide +kernel
theorem dX11_passMinute_54 : decode cX11_passMinute 54 = .ok (.getfield 13, 3) := by decide +kernel
theorem dX11_passMinute_57 : decode cX11_passMinute 57 = .ok (.iconst 0, 1) := by decide +kernel
theorem dX11_passMinute_58 : decode cX11_passMinute 58 = .ok (.iaload, 1) := by decide +kernel
theorem dX11_passMinute_59 : decode cX11_passMinute 59 = .ok (.invokevirtual 131, 3) := by decide +kernel
theorem dX11_passMinute_62 : decode cX11_passMinute 62 = .ok (.istore_n 1, 1) := by decide +kernel
theorem dX11_passMinute_63 : decode cX11_passMinute 63 = .ok (.iload_n 1, 1) := by decide +kernel
theorem dX11_passMinute_64 : decode cX11_passMinute 64 = .ok (.iconst (-1), 1) := by decide +kernel
theorem dX11_passMinute_65 : decode cX11_passMinute 65 = .ok (.if_icmp .ne 17, 3) := by decide +kernel
theorem dX11_passMinute_68 : decode cX11_passMinute 68 = .ok (.aload_n 0, 1) := by decide +kernel
theorem dX11_passMinute_69 : decode cX11_passMinute 69 = .ok (.getfield 13, 3) := by decide +kernel
theorem dX11_passMinute_72 : decode cX11_passMinute 72 = .ok (.bipush 19, 2) := by decide +kernel
theorem dX11_passMinute_74 : decode cX11_passMinute 74 = .ok (.dup2, 1) := by decide +kernel
theorem dX11_passMinute_75 : decode cX11_passMinute 75 = .ok (.iaload, 1) := by decide +kernel
theorem dX11_passMinute_76 : decode cX11_passMinute 76 = .ok (.iconst 1, 1) := by decide +kernel
theorem dX11_passMinute_77 : decode cX11_passMinute 77 = .ok (.iadd, 1) := by decide +kernel
theorem dX11_passMinute_78 : decode cX11_passMinute 78 = .ok (.iastore, 1) := by decide +kernel
theorem dX11_passMinute_79 : decode cX11_passMinute 79 = .ok (.goto 8, 3) := by decide +kernel
theorem dX11_passMinute_82 : decode cX11_passMinute 82 = .ok (.aload_n 0, 1) := by decide +kernel
theorem dX11_passMinute_83 : decode cX11_passMinute 83 = .ok (.iload_n 1, 1) := by decide +kernel
theorem dX11_passMinute_84 : decode cX11_passMinute 84 = .ok (.invokevirtual 134, 3) := by decide +kernel
theorem dX11_passMinute_87 : decode cX11_passMinute 87 = .ok (.aload_n 0, 1) := by decide +kernel
theorem dX11_passMinute_88 : decode cX11_passMinute 88 = .ok (.getfield 13, 3) := by decide +kernel
theorem dX11_passMinute_91 : decode cX11_passMinute 91 = .ok (.bipush 9, 2) := by decide +kernel
theorem dX11_passMinute_93 : decode cX11_passMinute 93 = .ok (.dup2, 1) := by decide +kernel
theorem dX11_passMinute_94 : decode cX11_passMinute 94 = .ok (.iaload, 1) := by decide +kernel
theorem dX11_passMinute_95 : decode cX11_passMinute 95 = .ok (.iconst 1, 1) := by decide +kernel
theorem dX11_passMinute_96 : decode cX11_passMinute 96 = .ok (.iadd, 1) := by decide +kernel
theorem dX11_passMinute_97 : decode cX11_passMinute 97 = .ok (.iastore, 1) := by decide +kernel
theorem dX11_passMinute_98 : decode cX11_passMinute 98 = .ok (.return_, 1) := by decide +kernel
theorem dX11_doneCount_0 : decode cX11_doneCount 0 = .ok (.iconst 0, 1) := by decide +kernel
theorem dX11_doneCount_1 : decode cX11_doneCount 1 = .ok (.istore_n 1, 1) := by decide +kernel
theorem dX11_doneCount_2 : decode cX11_doneCount 2 = .ok (.iconst 0, 1) := by decide +kernel
theorem dX11_doneCount_3 : decode cX11_doneCount 3 = .ok (.istore_n 2, 1) := by decide +kernel
theorem dX11_doneCount_4 : decode cX11_doneCount 4 = .ok (.iload_n 2, 1) := by decide +kernel
theorem dX11_doneCount_5 : decode cX11_doneCount 5 = .ok (.aload_n 0, 1) := by decide +kernel
theorem dX11_doneCount_6 : decode cX11_doneCount 6 = .ok (.getfield 13, 3) := by decide +kernel
theorem dX11_doneCount_9 : decode cX11_doneCount 9 = .ok (.bipush 8, 2) := by decide +kernel
theorem dX11_doneCount_11 : decode cX11_doneCount 11 = .ok (.iaload, 1) := by decide +kernel
theorem dX11_doneCount_12 : decode cX11_doneCount 12 = .ok (.if_icmp .ge 25, 3) := by decide +kernel
theorem dX11_doneCount_15 : decode cX11_doneCount 15 = .ok (.iload_n 1, 1) := by decide +kernel
theorem dX11_doneCount_16 : decode cX11_doneCount 16 = .ok (.aload_n 0, 1) := by decide +kernel
theorem dX11_doneCount_17 : decode cX11_doneCount 17 = .ok (.iload_n 2, 1) := by decide +kernel
theorem dX11_doneCount_18 : decode cX11_doneCount 18 = .ok (.invokevirtual 95, 3) := by decide +kernel
theorem dX11_doneCount_21 : decode cX11_doneCount 21 = .ok (.ifCond .eq 7, 3) := by decide +kernel
theorem dX11_doneCount_24 : decode cX11_doneCount 24 = .ok (.iconst 1, 1) := by decide +kernel
theorem dX11_doneCount_25 : decode cX11_doneCount 25 = .ok (.goto 4, 3) := by decide +kernel
theorem dX11_doneCount_28 : decode cX11_doneCount 28 = .ok (.iconst 0, 1) := by decide +kernel
theorem dX11_doneCount_29 : decode cX11_doneCount 29 = .ok (.iadd, 1) := by decide +kernel
theorem dX11_doneCount_30 : decode cX11_doneCount 30 = .ok (.istore_n 1, 1) := by decide +kernel
theorem dX11_doneCount_31 : decode cX11_doneCount 31 = .ok (.iinc 2 1, 3) := by decide +kernel
theorem dX11_doneCount_34 : decode cX11_doneCount 34 = .ok (.goto (-30), 3) := by decide +kernel
theorem dX11_doneCount_37 : decode cX11_doneCount 37 = .ok (.iload_n 1, 1) := by decide +kernel
theorem dX11_doneCount_38 : decode cX11_doneCount 38 = .ok (.ireturn, 1) := by decide +kernel
theorem dX11_lates_0 : decode cX11_lates 0 = .ok (.iconst 0, 1) := by decide +kernel
theorem dX11_lates_1 : decode cX11_lates 1 = .ok (.istore_n 1, 1) := by decide +kernel
theorem dX11_lates_2 : decode cX11_lates 2 = .ok (.iconst 0, 1) := by decide +kernel
theorem dX11_lates_3 : decode cX11_lates 3 = .ok (.istore_n 2, 1) := by decide +kernel
theorem dX11_lates_4 : decode cX11_lates 4 = .ok (.iload_n 2, 1) := by decide +kernel
theorem dX11_lates_5 : decode cX11_lates 5 = .ok (.aload_n 0, 1) := by decide +kernel
theorem dX11_lates_6 : decode cX11_lates 6 = .ok (.getfield 13, 3) := by decide +kernel
theorem dX11_lates_9 : decode cX11_lates 9 = .ok (.bipush 8, 2) := by decide +kernel
theorem dX11_lates_11 : decode cX11_lates 11 = .ok (.iaload, 1) := by decide +kernel
theorem dX11_lates_12 : decode cX11_lates 12 = .ok (.if_icmp .ge 25, 3) := by decide +kernel
theorem dX11_lates_15 : decode cX11_lates 15 = .ok (.iload_n 1, 1) := by decide +kernel
theorem dX11_lates_16 : decode cX11_lates 16 = .ok (.aload_n 0, 1) := by decide +kernel
theorem dX11_lates_17 : decode cX11_lates 17 = .ok (.iload_n 2, 1) := by decide +kernel
theorem dX11_lates_18 : decode cX11_lates 18 = .ok (.invokevirtual 137, 3) := by decide +kernel
theorem dX11_lates_21 : decode cX11_lates 21 = .ok (.ifCond .eq 7, 3) := by decide +kernel
theorem dX11_lates_24 : decode cX11_lates 24 = .ok (.iconst 1, 1) := by decide +kernel
theorem dX11_lates_25 : decode cX11_lates 25 = .ok (.goto 4, 3) := by decide +kernel
theorem dX11_lates_28 : decode cX11_lates 28 = .ok (.iconst 0, 1) := by decide +kernel
theorem dX11_lates_29 : decode cX11_lates 29 = .ok (.iadd, 1) := by decide +kernel
theorem dX11_lates_30 : decode cX11_lates 30 = .ok (.istore_n 1, 1) := by decide +kernel
theorem dX11_lates_31 : decode cX11_lates 31 = .ok (.iinc 2 1, 3) := by decide +kernel
theorem dX11_lates_34 : decode cX11_lates 34 = .ok (.goto (-30), 3) := by decide +kernel
theorem dX11_lates_37 : decode cX11_lates 37 = .ok (.iload_n 1, 1) := by decide +kernel
theorem dX11_lates_38 : decode cX11_lates 38 = .ok (.ireturn, 1) := by decide +kernel
theorem dX11_passMinutes_0 : decode cX11_passMinutes 0 = .ok (.aload_n 0, 1) := by decide +kernel
theorem dX11_passMinutes_1 : decode cX11_passMinutes 1 = .ok (.invokevirtual 140, 3) := by decide +kernel
theorem dX11_passMinutes_4 : decode cX11_passMinutes 4 = .ok (.istore_n 2, 1) := by decide +kernel
theorem dX11_passMinutes_5 : decode cX11_passMinutes 5 = .ok (.iconst 0, 1) := by decide +kernel
theorem dX11_passMinutes_6 : decode cX11_passMinutes 6 = .ok (.istore_n 3, 1) := by decide +kernel
theorem dX11_passMinutes_7 : decode cX11_passMinutes 7 = .ok (.iload_n 3, 1) := by decide +kernel
theorem dX11_passMinutes_8 : decode cX11_passMinutes 8 = .ok (.iload_n 1, 1) := by decide +kernel
theorem dX11_passMinutes_9 : decode cX11_passMinutes 9 = .ok (.if_icmp .ge 13, 3) := by decide +kernel
theorem dX11_passMinutes_12 : decode cX11_passMinutes 12 = .ok (.aload_n 0, 1) := by decide +kernel
theorem dX11_passMinutes_13 : decode cX11_passMinutes 13 = .ok (.invokevirtual 143, 3) := by decide +kernel
theorem dX11_passMinutes_16 : decode cX11_passMinutes 16 = .ok (.iinc 3 1, 3) := by decide +kernel
theorem dX11_passMinutes_19 : decode cX11_passMinutes 19 = .ok (.goto (-12), 3) := by decide +kernel
theorem dX11_passMinutes_22 : decode cX11_passMinutes 22 = .ok (.aload_n 0, 1) := by decide +kernel
theorem dX11_passMinutes_23 : decode cX11_passMinutes 23 = .ok (.invokevirtual 140, 3) := by decide +kernel
theorem dX11_passMinutes_26 : decode cX11_passMinutes 26 = .ok (.iload_n 2, 1) := by decide +kernel
theorem dX11_passMinutes_27 : decode cX11_passMinutes 27 = .ok (.isub, 1) := by decide +kernel
theorem dX11_passMinutes_28 : decode cX11_passMinutes 28 = .ok (.ireturn, 1) := by decide +kernel
theorem dX11_canAdd_0 : decode cX11_canAdd 0 = .ok (.aload_n 0, 1) := by decide +kernel
theorem dX11_canAdd_1 : decode cX11_canAdd 1 = .ok (.getfield 13, 3) := by decide +kernel
theorem dX11_canAdd_4 : decode cX11_canAdd 4 = .ok (.bipush 8, 2) := by decide +kernel
theorem dX11_canAdd_6 : decode cX11_canAdd 6 = .ok (.iaload, 1) := by decide +kernel
theorem dX11_canAdd_7 : decode cX11_canAdd 7 = .ok (.bipush 12, 2) := by decide +kernel
theorem dX11_canAdd_9 : decode cX11_canAdd 9 = .ok (.if_icmp .ge 22, 3) := by decide +kernel
theorem dX11_canAdd_12 : decode cX11_canAdd 12 = .ok (.aload_n 0, 1) := by decide +kernel
theorem dX11_canAdd_13 : decode cX11_canAdd 13 = .ok (.getfield 13, 3) := by decide +kernel
theorem dX11_canAdd_16 : decode cX11_canAdd 16 = .ok (.bipush 9, 2) := by decide +kernel
theorem dX11_canAdd_18 : decode cX11_canAdd 18 = .ok (.iaload, 1) := by decide +kernel
theorem dX11_canAdd_19 : decode cX11_canAdd 19 = .ok (.iload_n 1, 1) := by decide +kernel
theorem dX11_canAdd_20 : decode cX11_canAdd 20 = .ok (.iadd, 1) := by decide +kernel
theorem dX11_canAdd_21 : decode cX11_canAdd 21 = .ok (.sipush 2000, 3) := by decide +kernel
theorem dX11_canAdd_24 : decode cX11_canAdd 24 = .ok (.if_icmp .gt 7, 3) := by decide +kernel
theorem dX11_canAdd_27 : decode cX11_canAdd 27 = .ok (.iconst 1, 1) := by decide +kernel
theorem dX11_canAdd_28 : decode cX11_canAdd 28 = .ok (.goto 4, 3) := by decide +kernel
theorem dX11_canAdd_31 : decode cX11_canAdd 31 = .ok (.iconst 0, 1) := by decide +kernel
theorem dX11_canAdd_32 : decode cX11_canAdd 32 = .ok (.ireturn, 1) := by decide +kernel
theorem dX11_isLetterData_0 : decode cX11_isLetterData 0 = .ok (.iload_n 0, 1) := by decide +kernel
theorem dX11_isLetterData_1 : decode cX11_isLetterData 1 = .ok (.iconst 1, 1) := by decide +kernel
theorem dX11_isLetterData_2 : decode cX11_isLetterData 2 = .ok (.bipush 30, 2) := by decide +kernel
theorem dX11_isLetterData_4 : decode cX11_isLetterData 4 = .ok (.invokestatic 79, 3) := by decide +kernel
theorem dX11_isLetterData_7 : decode cX11_isLetterData 7 = .ok (.ifCond .eq 39, 3) := by decide +kernel
theorem dX11_isLetterData_10 : decode cX11_isLetterData 10 = .ok (.iload_n 1, 1) := by decide +kernel
theorem dX11_isLetterData_11 : decode cX11_isLetterData 11 = .ok (.iconst 0, 1) := by decide +kernel
theorem dX11_isLetterData_12 : decode cX11_isLetterData 12 = .ok (.sipush 999, 3) := by decide +kernel
theorem dX11_isLetterData_15 : decode cX11_isLetterData 15 = .ok (.invokestatic 79, 3) := by decide +kernel
theorem dX11_isLetterData_18 : decode cX11_isLetterData 18 = .ok (.ifCond .eq 28, 3) := by decide +kernel
theorem dX11_isLetterData_21 : decode cX11_isLetterData 21 = .ok (.iload_n 2, 1) := by decide +kernel
theorem dX11_isLetterData_22 : decode cX11_isLetterData 22 = .ok (.iconst 1, 1) := by decide +kernel
theorem dX11_isLetterData_23 : decode cX11_isLetterData 23 = .ok (.sipush 999, 3) := by decide +kernel
theorem dX11_isLetterData_26 : decode cX11_isLetterData 26 = .ok (.invokestatic 79, 3) := by decide +kernel
theorem dX11_isLetterData_29 : decode cX11_isLetterData 29 = .ok (.ifCond .eq 17, 3) := by decide +kernel
theorem dX11_isLetterData_32 : decode cX11_isLetterData 32 = .ok (.iload_n 3, 1) := by decide +kernel
theorem dX11_isLetterData_33 : decode cX11_isLetterData 33 = .ok (.iconst 0, 1) := by decide +kernel
theorem dX11_isLetterData_34 : decode cX11_isLetterData 34 = .ok (.bipush 9, 2) := by decide +kernel
theorem dX11_isLetterData_36 : decode cX11_isLetterData 36 = .ok (.invokestatic 79, 3) := by decide +kernel
theorem dX11_isLetterData_39 : decode cX11_isLetterData 39 = .ok (.ifCond .eq 7, 3) := by decide +kernel
theorem dX11_isLetterData_42 : decode cX11_isLetterData 42 = .ok (.iconst 1, 1) := by decide +kernel
theorem dX11_isLetterData_43 : decode cX11_isLetterData 43 = .ok (.goto 4, 3) := by decide +kernel
theorem dX11_isLetterData_46 : decode cX11_isLetterData 46 = .ok (.iconst 0, 1) := by decide +kernel
theorem dX11_isLetterData_47 : decode cX11_isLetterData 47 = .ok (.ireturn, 1) := by decide +kernel
theorem dX11_add_0 : decode cX11_add 0 = .ok (.aload_n 0, 1) := by decide +kernel
theorem dX11_add_1 : decode cX11_add 1 = .ok (.getfield 13, 3) := by decide +kernel
theorem dX11_add_4 : decode cX11_add 4 = .ok (.bipush 8, 2) := by decide +kernel
theorem dX11_add_6 : decode cX11_add 6 = .ok (.iaload, 1) := by decide +kernel
theorem dX11_add_7 : decode cX11_add 7 = .ok (.istore 6, 2) := by decide +kernel
theorem dX11_add_9 : decode cX11_add 9 = .ok (.aload_n 0, 1) := by decide +kernel
theorem dX11_add_10 : decode cX11_add 10 = .ok (.iload 6, 2) := by decide +kernel
theorem dX11_add_12 : decode cX11_add 12 = .ok (.iconst 0, 1) := by decide +kernel
theorem dX11_add_13 : decode cX11_add 13 = .ok (.iload_n 1, 1) := by decide +kernel
theorem dX11_add_14 : decode cX11_add 14 = .ok (.invokevirtual 120, 3) := by decide +kernel
theorem dX11_add_17 : decode cX11_add 17 = .ok (.aload_n 0, 1) := by decide +kernel
theorem dX11_add_18 : decode cX11_add 18 = .ok (.iload 6, 2) := by decide +kernel
theorem dX11_add_20 : decode cX11_add 20 = .ok (.iconst 1, 1) := by decide +kernel
theorem dX11_add_21 : decode cX11_add 21 = .ok (.iload_n 2, 1) := by decide +kernel
theorem dX11_add_22 : decode cX11_add 22 = .ok (.invokevirtual 120, 3) := by decide +kernel
theorem dX11_add_25 : decode cX11_add 25 = .ok (.aload_n 0, 1) := by decide +kernel
theorem dX11_add_26 : decode cX11_add 26 = .ok (.iload 6, 2) := by decide +kernel
theorem dX11_add_28 : decode cX11_add 28 = .ok (.iconst 2, 1) := by decide +kernel
theorem dX11_add_29 : decode cX11_add 29 = .ok (.iload_n 3, 1) := by decide +kernel
theorem dX11_add_30 : decode cX11_add 30 = .ok (.invokevirtual 120, 3) := by decide +kernel
theorem dX11_add_33 : decode cX11_add 33 = .ok (.aload_n 0, 1) := by decide +kernel
theorem dX11_add_34 : decode cX11_add 34 = .ok (.iload 6, 2) := by decide +kernel
theorem dX11_add_36 : decode cX11_add 36 = .ok (.iconst 3, 1) := by decide +kernel
theorem dX11_add_37 : decode cX11_add 37 = .ok (.iload 4, 2) := by decide +kernel
theorem dX11_add_39 : decode cX11_add 39 = .ok (.invokevirtual 120, 3) := by decide +kernel
theorem dX11_add_42 : decode cX11_add 42 = .ok (.aload_n 0, 1) := by decide +kernel
theorem dX11_add_43 : decode cX11_add 43 = .ok (.iload 6, 2) := by decide +kernel
theorem dX11_add_45 : decode cX11_add 45 = .ok (.iconst 4, 1) := by decide +kernel
theorem dX11_add_46 : decode cX11_add 46 = .ok (.iload 5, 2) := by decide +kernel
theorem dX11_add_48 : decode cX11_add 48 = .ok (.invokevirtual 120, 3) := by decide +kernel
theorem dX11_add_51 : decode cX11_add 51 = .ok (.aload_n 0, 1) := by decide +kernel
theorem dX11_add_52 : decode cX11_add 52 = .ok (.iload 6, 2) := by decide +kernel
theorem dX11_add_54 : decode cX11_add 54 = .ok (.iconst 5, 1) := by decide +kernel
theorem dX11_add_55 : decode cX11_add 55 = .ok (.iload_n 2, 1) := by decide +kernel
theorem dX11_add_56 : decode cX11_add 56 = .ok (.invokevirtual 120, 3) := by decide +kernel
theorem dX11_add_59 : decode cX11_add 59 = .ok (.aload_n 0, 1) := by decide +kernel
theorem dX11_add_60 : decode cX11_add 60 = .ok (.iload 6, 2) := by decide +kernel
theorem dX11_add_62 : decode cX11_add 62 = .ok (.bipush 6, 2) := by decide +kernel
theorem dX11_add_64 : decode cX11_add 64 = .ok (.iconst (-1), 1) := by decide +kernel
theorem dX11_add_65 : decode cX11_add 65 = .ok (.invokevirtual 120, 3) := by decide +kernel
theorem dX11_add_68 : decode cX11_add 68 = .ok (.aload_n 0, 1) := by decide +kernel
theorem dX11_add_69 : decode cX11_add 69 = .ok (.iload 6, 2) := by decide +kernel
theorem dX11_add_71 : decode cX11_add 71 = .ok (.bipush 7, 2) := by decide +kernel
theorem dX11_add_73 : decode cX11_add 73 = .ok (.iconst 0, 1) := by decide +kernel
theorem dX11_add_74 : decode cX11_add 74 = .ok (.invokevirtual 120, 3) := by decide +kernel
theorem dX11_add_77 : decode cX11_add 77 = .ok (.aload_n 0, 1) := by decide +kernel
theorem dX11_add_78 : decode cX11_add 78 = .ok (.getfield 13, 3) := by decide +kernel
theorem dX11_add_81 : decode cX11_add 81 = .ok (.bipush 8, 2) := by decide +kernel
theorem dX11_add_83 : decode cX11_add 83 = .ok (.dup2, 1) := by decide +kernel
theorem dX11_add_84 : decode cX11_add 84 = .ok (.iaload, 1) := by decide +kernel
theorem dX11_add_85 : decode cX11_add 85 = .ok (.iconst 1, 1) := by decide +kernel
theorem dX11_add_86 : decode cX11_add 86 = .ok (.iadd, 1) := by decide +kernel
theorem dX11_add_87 : decode cX11_add 87 = .ok (.iastore, 1) := by decide +kernel
theorem dX11_add_88 : decode cX11_add 88 = .ok (.iload 6, 2) := by decide +kernel
theorem dX11_add_90 : decode cX11_add 90 = .ok (.ireturn, 1) := by decide +kernel
theorem dX11_throwAway_0 : decode cX11_throwAway 0 = .ok (.aload_n 0, 1) := by decide +kernel
theorem dX11_throwAway_1 : decode cX11_throwAway 1 = .ok (.iload_n 1, 1) := by decide +kernel
theorem dX11_throwAway_2 : decode cX11_throwAway 2 = .ok (.iconst 5, 1) := by decide +kernel
theorem dX11_throwAway_3 : decode cX11_throwAway 3 = .ok (.invokevirtual 87, 3) := by decide +kernel
theorem dX11_throwAway_6 : decode cX11_throwAway 6 = .ok (.istore_n 2, 1) := by decide +kernel
theorem dX11_throwAway_7 : decode cX11_throwAway 7 = .ok (.aload_n 0, 1) := by decide +kernel
theorem dX11_throwAway_8 : decode cX11_throwAway 8 = .ok (.iload_n 1, 1) := by decide +kernel
theorem dX11_throwAway_9 : decode cX11_throwAway 9 = .ok (.iconst 5, 1) := by decide +kernel
theorem dX11_throwAway_10 : decode cX11_throwAway 10 = .ok (.iconst 0, 1) := by decide +kernel
theorem dX11_throwAway_11 : decode cX11_throwAway 11 = .ok (.invokevirtual 120, 3) := by decide +kernel
theorem dX11_throwAway_14 : decode cX11_throwAway 14 = .ok (.aload_n 0, 1) := by decide +kernel
theorem dX11_throwAway_15 : decode cX11_throwAway 15 = .ok (.iload_n 1, 1) := by decide +kernel
theorem dX11_throwAway_16 : decode cX11_throwAway 16 = .ok (.bipush 6, 2) := by decide +kernel
theorem dX11_throwAway_18 : decode cX11_throwAway 18 = .ok (.aload_n 0, 1) := by decide +kernel
theorem dX11_throwAway_19 : decode cX11_throwAway 19 = .ok (.getfield 13, 3) := by decide +kernel
theorem dX11_throwAway_22 : decode cX11_throwAway 22 = .ok (.bipush 9, 2) := by decide +kernel
theorem dX11_throwAway_24 : decode cX11_throwAway 24 = .ok (.iaload, 1) := by decide +kernel
theorem dX11_throwAway_25 : decode cX11_throwAway 25 = .ok (.invokevirtual 120, 3) := by decide +kernel
theorem dX11_throwAway_28 : decode cX11_throwAway 28 = .ok (.iload_n 2, 1) := by decide +kernel
theorem dX11_throwAway_29 : decode cX11_throwAway 29 = .ok (.ireturn, 1) := by decide +kernel
theorem dX11_appendWord_0 : decode cX11_appendWord 0 = .ok (.bipush 24, 2) := by decide +kernel
theorem dX11_appendWord_2 : decode cX11_appendWord 2 = .ok (.istore_n 2, 1) := by decide +kernel
theorem dX11_appendWord_3 : decode cX11_appendWord 3 = .ok (.iload_n 2, 1) := by decide +kernel
theorem dX11_appendWord_4 : decode cX11_appendWord 4 = .ok (.ifCond .lt 35, 3) := by decide +kernel
theorem dX11_appendWord_7 : decode cX11_appendWord 7 = .ok (.aload_n 0, 1) := by decide +kernel
theorem dX11_appendWord_8 : decode cX11_appendWord 8 = .ok (.getfield 24, 3) := by decide +kernel
theorem dX11_appendWord_11 : decode cX11_appendWord 11 = .ok (.aload_n 0, 1) := by decide +kernel
theorem dX11_appendWord_12 : decode cX11_appendWord 12 = .ok (.getfield 27, 3) := by decide +kernel
theorem dX11_appendWord_15 : decode cX11_appendWord 15 = .ok (.iload_n 1, 1) := by decide +kernel
theorem dX11_appendWord_16 : decode cX11_appendWord 16 = .ok (.iload_n 2, 1) := by decide +kernel
theorem dX11_appendWord_17 : decode cX11_appendWord 17 = .ok (.ishr, 1) := by decide +kernel
theorem dX11_appendWord_18 : decode cX11_appendWord 18 = .ok (.sipush 255, 3) := by decide +kernel
theorem dX11_appendWord_21 : decode cX11_appendWord 21 = .ok (.iand, 1) := by decide +kernel
theorem dX11_appendWord_22 : decode cX11_appendWord 22 = .ok (.iastore, 1) := by decide +kernel
theorem dX11_appendWord_23 : decode cX11_appendWord 23 = .ok (.aload_n 0, 1) := by decide +kernel
theorem dX11_appendWord_24 : decode cX11_appendWord 24 = .ok (.dup, 1) := by decide +kernel
theorem dX11_appendWord_25 : decode cX11_appendWord 25 = .ok (.getfield 27, 3) := by decide +kernel
theorem dX11_appendWord_28 : decode cX11_appendWord 28 = .ok (.iconst 1, 1) := by decide +kernel
theorem dX11_appendWord_29 : decode cX11_appendWord 29 = .ok (.iadd, 1) := by decide +kernel
theorem dX11_appendWord_30 : decode cX11_appendWord 30 = .ok (.putfield 27, 3) := by decide +kernel
theorem dX11_appendWord_33 : decode cX11_appendWord 33 = .ok (.iinc 2 (-8), 3) := by decide +kernel
theorem dX11_appendWord_36 : decode cX11_appendWord 36 = .ok (.goto (-33), 3) := by decide +kernel
theorem dX11_appendWord_39 : decode cX11_appendWord 39 = .ok (.return_, 1) := by decide +kernel
theorem dX11_append_0 : decode cX11_append 0 = .ok (.aload_n 0, 1) := by decide +kernel
theorem dX11_append_1 : decode cX11_append 1 = .ok (.aload_n 0, 1) := by decide +kernel
theorem dX11_append_2 : decode cX11_append 2 = .ok (.getfield 27, 3) := by decide +kernel
theorem dX11_append_5 : decode cX11_append 5 = .ok (.bipush 20, 2) := by decide +kernel
theorem dX11_append_7 : decode cX11_append 7 = .ok (.iadd, 1) := by decide +kernel
theorem dX11_append_8 : decode cX11_append 8 = .ok (.sipush 600, 3) := by decide +kernel
theorem dX11_append_11 : decode cX11_append 11 = .ok (.if_icmp .le 7, 3) := by decide +kernel
theorem dX11_append_14 : decode cX11_append 14 = .ok (.iconst 1, 1) := by decide +kernel
theorem dX11_append_15 : decode cX11_append 15 = .ok (.goto 4, 3) := by decide +kernel
theorem dX11_append_18 : decode cX11_append 18 = .ok (.iconst 0, 1) := by decide +kernel
theorem dX11_append_19 : decode cX11_append 19 = .ok (.iconst 0, 1) := by decide +kernel
theorem dX11_append_20 : decode cX11_append 20 = .ok (.iconst 0, 1) := by decide +kernel
theorem dX11_append_21 : decode cX11_append 21 = .ok (.invokevirtual 146, 3) := by decide +kernel
theorem dX11_append_24 : decode cX11_append 24 = .ok (.ifCond .eq 5, 3) := by decide +kernel
theorem dX11_append_27 : decode cX11_append 27 = .ok (.iconst 0, 1) := by decide +kernel
theorem dX11_append_28 : decode cX11_append 28 = .ok (.ireturn, 1) := by decide +kernel
theorem dX11_append_29 : decode cX11_append 29 = .ok (.aload_n 0, 1) := by decide +kernel
theorem dX11_append_30 : decode cX11_append 30 = .ok (.iload_n 1, 1) := by decide +kernel
theorem dX11_append_31 : decode cX11_append 31 = .ok (.invokevirtual 150, 3) := by decide +kernel
theorem dX11_append_34 : decode cX11_append 34 = .ok (.aload_n 0, 1) := by decide +kernel
theorem dX11_append_35 : decode cX11_append 35 = .ok (.iload_n 2, 1) := by decide +kernel
theorem dX11_append_36 : decode cX11_append 36 = .ok (.invokevirtual 150, 3) := by decide +kernel
theorem dX11_append_39 : decode cX11_append 39 = .ok (.aload_n 0, 1) := by decide +kernel
theorem dX11_append_40 : decode cX11_append 40 = .ok (.iload_n 3, 1) := by decide +kernel
theorem dX11_append_41 : decode cX11_append 41 = .ok (.invokevirtual 150, 3) := by decide +kernel
theorem dX11_append_44 : decode cX11_append 44 = .ok (.aload_n 0, 1) := by decide +kernel
theorem dX11_append_45 : decode cX11_append 45 = .ok (.iload 4, 2) := by decide +kernel
theorem dX11_append_47 : decode cX11_append 47 = .ok (.invokevirtual 150, 3) := by decide +kernel
theorem dX11_append_50 : decode cX11_append 50 = .ok (.aload_n 0, 1) := by decide +kernel
theorem dX11_append_51 : decode cX11_append 51 = .ok (.iload 5, 2) := by decide +kernel
theorem dX11_append_53 : decode cX11_append 53 = .ok (.invokevirtual 150, 3) := by decide +kernel
theorem dX11_append_56 : decode cX11_append 56 = .ok (.aload_n 0, 1) := by decide +kernel
theorem dX11_append_57 : decode cX11_append 57 = .ok (.getfield 27, 3) := by decide +kernel
theorem dX11_append_60 : decode cX11_append 60 = .ok (.ireturn, 1) := by decide +kernel
theorem dX11_truncate_0 : decode cX11_truncate 0 = .ok (.aload_n 0, 1) := by decide +kernel
theorem dX11_truncate_1 : decode cX11_truncate 1 = .ok (.iload_n 1, 1) := by decide +kernel
theorem dX11_truncate_2 : decode cX11_truncate 2 = .ok (.iconst 0, 1) := by decide +kernel
theorem dX11_truncate_3 : decode cX11_truncate 3 = .ok (.aload_n 0, 1) := by decide +kernel
theorem dX11_truncate_4 : decode cX11_truncate 4 = .ok (.getfield 27, 3) := by decide +kernel
theorem dX11_truncate_7 : decode cX11_truncate 7 = .ok (.invokestatic 79, 3) := by decide +kernel
theorem dX11_truncate_10 : decode cX11_truncate 10 = .ok (.ifCond .ne 7, 3) := by decide +kernel
theorem dX11_truncate_13 : decode cX11_truncate 13 = .ok (.iconst 1, 1) := by decide +kernel
theorem dX11_truncate_14 : decode cX11_truncate 14 = .ok (.goto 4, 3) := by decide +kernel
theorem dX11_truncate_17 : decode cX11_truncate 17 = .ok (.iconst 0, 1) := by decide +kernel
theorem dX11_truncate_18 : decode cX11_truncate 18 = .ok (.iconst 0, 1) := by decide +kernel
theorem dX11_truncate_19 : decode cX11_truncate 19 = .ok (.iconst 0, 1) := by decide +kernel
theorem dX11_truncate_20 : decode cX11_truncate 20 = .ok (.invokevirtual 146, 3) := by decide +kernel
theorem dX11_truncate_23 : decode cX11_truncate 23 = .ok (.ifCond .eq 5, 3) := by decide +kernel
theorem dX11_truncate_26 : decode cX11_truncate 26 = .ok (.iconst 0, 1) := by decide +kernel
theorem dX11_truncate_27 : decode cX11_truncate 27 = .ok (.ireturn, 1) := by decide +kernel
theorem dX11_truncate_28 : decode cX11_truncate 28 = .ok (.aload_n 0, 1) := by decide +kernel
theorem dX11_truncate_29 : decode cX11_truncate 29 = .ok (.iload_n 1, 1) := by decide +kernel
theorem dX11_truncate_30 : decode cX11_truncate 30 = .ok (.putfield 27, 3) := by decide +kernel
theorem dX11_truncate_33 : decode cX11_truncate 33 = .ok (.iload_n 1, 1) := by decide +kernel
theorem dX11_truncate_34 : decode cX11_truncate 34 = .ok (.ireturn, 1) := by decide +kernel
theorem dX11_isSmall_0 : decode cX11_isSmall 0 = .ok (.iload_n 0, 1) := by decide +kernel
theorem dX11_isSmall_1 : decode cX11_isSmall 1 = .ok (.bipush 97, 2) := by decide +kernel
theorem dX11_isSmall_3 : decode cX11_isSmall 3 = .ok (.if_icmp .lt 13, 3) := by decide +kernel
theorem dX11_isSmall_6 : decode cX11_isSmall 6 = .ok (.iload_n 0, 1) := by decide +kernel
theorem dX11_isSmall_7 : decode cX11_isSmall 7 = .ok (.bipush 122, 2) := by decide +kernel
theorem dX11_isSmall_9 : decode cX11_isSmall 9 = .ok (.if_icmp .gt 7, 3) := by decide +kernel
theorem dX11_isSmall_12 : decode cX11_isSmall 12 = .ok (.iconst 1, 1) := by decide +kernel
theorem dX11_isSmall_13 : decode cX11_isSmall 13 = .ok (.goto 4, 3) := by decide +kernel
theorem dX11_isSmall_16 : decode cX11_isSmall 16 = .ok (.iconst 0, 1) := by decide +kernel
theorem dX11_isSmall_17 : decode cX11_isSmall 17 = .ok (.ireturn, 1) := by decide +kernel
theorem dX11_isDigit_0 : decode cX11_isDigit 0 = .ok (.iload_n 0, 1) := by decide +kernel
theorem dX11_isDigit_1 : decode cX11_isDigit 1 = .ok (.bipush 48, 2) := by decide +kernel
theorem dX11_isDigit_3 : decode cX11_isDigit 3 = .ok (.if_icmp .lt 13, 3) := by decide +kernel
theorem dX11_isDigit_6 : decode cX11_isDigit 6 = .ok (.iload_n 0, 1) := by decide +kernel
theorem dX11_isDigit_7 : decode cX11_isDigit 7 = .ok (.bipush 57, 2) := by decide +kernel
theorem dX11_isDigit_9 : decode cX11_isDigit 9 = .ok (.if_icmp .gt 7, 3) := by decide +kernel
theorem dX11_isDigit_12 : decode cX11_isDigit 12 = .ok (.iconst 1, 1) := by decide +kernel
theorem dX11_isDigit_13 : decode cX11_isDigit 13 = .ok (.goto 4, 3) := by decide +kernel
theorem dX11_isDigit_16 : decode cX11_isDigit 16 = .ok (.iconst 0, 1) := by decide +kernel
theorem dX11_isDigit_17 : decode cX11_isDigit 17 = .ok (.ireturn, 1) := by decide +kernel
theorem dX11_token_0 : decode cX11_token 0 = .ok (.aload_n 0, 1) := by decide +kernel
theorem dX11_token_1 : decode cX11_token 1 = .ok (.getfield 42, 3) := by decide +kernel
theorem dX11_token_4 : decode cX11_token 4 = .ok (.aload_n 0, 1) := by decide +kernel
theorem dX11_token_5 : decode cX11_token 5 = .ok (.getfield 27, 3) := by decide +kernel
theorem dX11_token_8 : decode cX11_token 8 = .ok (.if_icmp .ge 44, 3) := by decide +kernel
theorem dX11_token_11 : decode cX11_token 11 = .ok (.aload_n 0, 1) := by decide +kernel
theorem dX11_token_12 : decode cX11_token 12 = .ok (.getfield 24, 3) := by decide +kernel
theorem dX11_token_15 : decode cX11_token 15 = .ok (.aload_n 0, 1) := by decide +kernel
theorem dX11_token_16 : decode cX11_token 16 = .ok (.getfield 42, 3) := by decide +kernel
theorem dX11_token_19 : decode cX11_token 19 = .ok (.iaload, 1) := by decide +kernel
theorem dX11_token_20 : decode cX11_token 20 = .ok (.bipush 32, 2) := by decide +kernel
theorem dX11_token_22 : decode cX11_token 22 = .ok (.if_icmp .eq 17, 3) := by decide +kernel
theorem dX11_token_25 : decode cX11_token 25 = .ok (.aload_n 0, 1) := by decide +kernel
theorem dX11_token_26 : decode cX11_token 26 = .ok (.getfield 24, 3) := by decide +kernel
theorem dX11_token_29 : decode cX11_token 29 = .ok (.aload_n 0, 1) := by decide +kernel
theorem dX11_token_30 : decode cX11_token 30 = .ok (.getfield 42, 3) := by decide +kernel
theorem dX11_token_33 : decode cX11_token 33 = .ok (.iaload, 1) := by decide +kernel
theorem dX11_token_34 : decode cX11_token 34 = .ok (.bipush 10, 2) := by decide +kernel
theorem dX11_token_36 : decode cX11_token 36 = .ok (.if_icmp .ne 16, 3) := by decide +kernel
theorem dX11_token_39 : decode cX11_token 39 = .ok (.aload_n 0, 1) := by decide +kernel
theorem dX11_token_40 : decode cX11_token 40 = .ok (.dup, 1) := by decide +kernel
theorem dX11_token_41 : decode cX11_token 41 = .ok (.getfield 42, 3) := by decide +kernel
theorem dX11_token_44 : decode cX11_token 44 = .ok (.iconst 1, 1) := by decide +kernel
theorem dX11_token_45 : decode cX11_token 45 = .ok (.iadd, 1) := by decide +kernel
theorem dX11_token_46 : decode cX11_token 46 = .ok (.putfield 42, 3) := by decide +kernel
theorem dX11_token_49 : decode cX11_token 49 = .ok (.goto (-49), 3) := by decide +kernel
theorem dX11_token_52 : decode cX11_token 52 = .ok (.aload_n 0, 1) := by decide +kernel
theorem dX11_token_53 : decode cX11_token 53 = .ok (.aload_n 0, 1) := by decide +kernel
theorem dX11_token_54 : decode cX11_token 54 = .ok (.getfield 42, 3) := by decide +kernel
theorem dX11_token_57 : decode cX11_token 57 = .ok (.putfield 48, 3) := by decide +kernel
theorem dX11_token_60 : decode cX11_token 60 = .ok (.aload_n 0, 1) := by decide +kernel
theorem dX11_token_61 : decode cX11_token 61 = .ok (.getfield 42, 3) := by decide +kernel
theorem dX11_token_64 : decode cX11_token 64 = .ok (.aload_n 0, 1) := by decide +kernel
theorem dX11_token_65 : decode cX11_token 65 = .ok (.getfield 27, 3) := by decide +kernel
theorem dX11_token_68 : decode cX11_token 68 = .ok (.if_icmp .ne 9, 3) := by decide +kernel
theorem dX11_token_71 : decode cX11_token 71 = .ok (.aload_n 0, 1) := by decide +kernel
theorem dX11_token_72 : decode cX11_token 72 = .ok (.iconst 0, 1) := by decide +kernel
theorem dX11_token_73 : decode cX11_token 73 = .ok (.putfield 45, 3) := by decide +kernel
theorem dX11_token_76 : decode cX11_token 76 = .ok (.return_, 1) := by decide +kernel
theorem dX11_token_77 : decode cX11_token 77 = .ok (.aload_n 0, 1) := by decide +kernel
theorem dX11_token_78 : decode cX11_token 78 = .ok (.getfield 24, 3) := by decide +kernel
theorem dX11_token_81 : decode cX11_token 81 = .ok (.aload_n 0, 1) := by decide +kernel
theorem dX11_token_82 : decode cX11_token 82 = .ok (.getfield 42, 3) := by decide +kernel
theorem dX11_token_85 : decode cX11_token 85 = .ok (.iaload, 1) := by decide +kernel
theorem dX11_token_86 : decode cX11_token 86 = .ok (.invokestatic 153, 3) := by decide +kernel
theorem dX11_token_89 : decode cX11_token 89 = .ok (.ifCond .eq 66, 3) := by decide +kernel
theorem dX11_token_92 : decode cX11_token 92 = .ok (.aload_n 0, 1) := by decide +kernel
theorem dX11_token_93 : decode cX11_token 93 = .ok (.getfield 42, 3) := by decide +kernel
theorem dX11_token_96 : decode cX11_token 96 = .ok (.aload_n 0, 1) := by decide +kernel
theorem dX11_token_97 : decode cX11_token 97 = .ok (.getfield 27, 3) := by decide +kernel
theorem dX11_token_100 : decode cX11_token 100 = .ok (.if_icmp .ge 31, 3) := by decide +kernel
theorem dX11_token_103 : decode cX11_token 103 = .ok (.aload_n 0, 1) := by decide +kernel
theorem dX11_token_104 : decode cX11_token 104 = .ok (.getfield 24, 3) := by decide +kernel
theorem dX11_token_107 : decode cX11_token 107 = .ok (.aload_n 0, 1) := by decide +kernel
theorem dX11_token_108 : decode cX11_token 108 = .ok (.getfield 42, 3) := by decide +kernel
theorem dX11_token_111 : decode cX11_token 111 = .ok (.iaload, 1) := by decide +kernel
theorem dX11_token_112 : decode cX11_token 112 = .ok (.invokestatic 153, 3) := by decide +kernel
theorem dX11_token_115 : decode cX11_token 115 = .ok (.ifCond .eq 16, 3) := by decide +kernel
theorem dX11_token_118 : decode cX11_token 118 = .ok (.aload_n 0, 1) := by decide +kernel
theorem dX11_token_119 : decode cX11_token 119 = .ok (.dup, 1) := by decide +kernel
theorem dX11_token_120 : decode cX11_token 120 = .ok (.getfield 42, 3) := by decide +kernel
theorem dX11_token_123 : decode cX11_token 123 = .ok (.iconst 1, 1) := by decide +kernel
theorem dX11_token_124 : decode cX11_token 124 = .ok (.iadd, 1) := by decide +kernel
theorem dX11_token_125 : decode cX11_token 125 = .ok (.putfield 42, 3) := by decide +kernel
theorem dX11_token_128 : decode cX11_token 128 = .ok (.goto (-36), 3) := by decide +kernel
theorem dX11_token_131 : decode cX11_token 131 = .ok (.aload_n 0, 1) := by decide +kernel
theorem dX11_token_132 : decode cX11_token 132 = .ok (.aload_n 0, 1) := by decide +kernel
theorem dX11_token_133 : decode cX11_token 133 = .ok (.getfield 42, 3) := by decide +kernel
theorem dX11_token_136 : decode cX11_token 136 = .ok (.aload_n 0, 1) := by decide +kernel
theorem dX11_token_137 : decode cX11_token 137 = .ok (.getfield 48, 3) := by decide +kernel
theorem dX11_token_140 : decode cX11_token 140 = .ok (.isub, 1) := by decide +kernel
theorem dX11_token_141 : decode cX11_token 141 = .ok (.bipush 8, 2) := by decide +kernel
theorem dX11_token_143 : decode cX11_token 143 = .ok (.if_icmp .le 7, 3) := by decide +kernel
theorem dX11_token_146 : decode cX11_token 146 = .ok (.iconst 4, 1) := by decide +kernel
theorem dX11_token_147 : decode cX11_token 147 = .ok (.goto 4, 3) := by decide +kernel
theorem dX11_token_150 : decode cX11_token 150 = .ok (.iconst 1, 1) := by decide +kernel
theorem dX11_token_151 : decode cX11_token 151 = .ok (.putfield 45, 3) := by decide +kernel
theorem dX11_token_154 : decode cX11_token 154 = .ok (.return_, 1) := by decide +kernel
theorem dX11_token_155 : decode cX11_token 155 = .ok (.aload_n 0, 1) := by decide +kernel
theorem dX11_token_156 : decode cX11_token 156 = .ok (.getfield 24, 3) := by decide +kernel
theorem dX11_token_159 : decode cX11_token 159 = .ok (.aload_n 0, 1) := by decide +kernel
theorem dX11_token_160 : decode cX11_token 160 = .ok (.getfield 42, 3) := by decide +kernel
theorem dX11_token_163 : decode cX11_token 163 = .ok (.iaload, 1) := by decide +kernel
theorem dX11_token_164 : decode cX11_token 164 = .ok (.invokestatic 156, 3) := by decide +kernel
theorem dX11_token_167 : decode cX11_token 167 = .ok (.ifCond .eq 107, 3) := by decide +kernel
theorem dX11_token_170 : decode cX11_token 170 = .ok (.aload_n 0, 1) := by decide +kernel
theorem dX11_token_171 : decode cX11_token 171 = .ok (.iconst 0, 1) := by decide +kernel
theorem dX11_token_172 : decode cX11_token 172 = .ok (.putfield 51, 3) := by decide +kernel
theorem dX11_token_175 : decode cX11_token 175 = .ok (.aload_n 0, 1) := by decide +kernel
theorem dX11_token_176 : decode cX11_token 176 = .ok (.getfield 42, 3) := by decide +kernel
theorem dX11_token_179 : decode cX11_token 179 = .ok (.aload_n 0, 1) := by decide +kernel
theorem dX11_token_180 : decode cX11_token 180 = .ok (.getfield 27, 3) := by decide +kernel
theorem dX11_token_183 : decode cX11_token 183 = .ok (.if_icmp .ge 68, 3) := by decide +kernel
theorem dX11_token_186 : decode cX11_token 186 = .ok (.aload_n 0, 1) := by decide +kernel
theorem dX11_token_187 : decode cX11_token 187 = .ok (.getfield 24, 3) := by decide +kernel
theorem dX11_token_190 : decode cX11_token 190 = .ok (.aload_n 0, 1) := by decide +kernel
theorem dX11_token_191 : decode cX11_token 191 = .ok (.getfield 42, 3) := by decide +kernel
theorem dX11_token_194 : decode cX11_token 194 = .ok (.iaload, 1) := by decide +kernel
theorem dX11_token_195 : decode cX11_token 195 = .ok (.invokestatic 156, 3) := by decide +kernel
theorem dX11_token_198 : decode cX11_token 198 = .ok (.ifCond .eq 53, 3) := by decide +kernel
theorem dX11_token_201 : decode cX11_token 201 = .ok (.aload_n 0, 1) := by decide +kernel
theorem dX11_token_202 : decode cX11_token 202 = .ok (.getfield 42, 3) := by decide +kernel
theorem dX11_token_205 : decode cX11_token 205 = .ok (.aload_n 0, 1) := by decide +kernel
theorem dX11_token_206 : decode cX11_token 206 = .ok (.getfield 48, 3) := by decide +kernel
theorem dX11_token_209 : decode cX11_token 209 = .ok (.isub, 1) := by decide +kernel
theorem dX11_token_210 : decode cX11_token 210 = .ok (.iconst 3, 1) := by decide +kernel
theorem dX11_token_211 : decode cX11_token 211 = .ok (.if_icmp .ge 27, 3) := by decide +kernel
theorem dX11_token_214 : decode cX11_token 214 = .ok (.aload_n 0, 1) := by decide +kernel
theorem dX11_token_215 : decode cX11_token 215 = .ok (.aload_n 0, 1) := by decide +kernel
theorem dX11_token_216 : decode cX11_token 216 = .ok (.getfield 51, 3) := by decide +kernel
theorem dX11_token_219 : decode cX11_token 219 = .ok (.bipush 10, 2) := by decide +kernel
theorem dX11_token_221 : decode cX11_token 221 = .ok (.imul, 1) := by decide +kernel
theorem dX11_token_222 : decode cX11_token 222 = .ok (.aload_n 0, 1) := by decide +kernel
theorem dX11_token_223 : decode cX11_token 223 = .ok (.getfield 24, 3) := by decide +kernel
theorem dX11_token_226 : decode cX11_token 226 = .ok (.aload_n 0, 1) := by decide +kernel
theorem dX11_token_227 : decode cX11_token 227 = .ok (.getfield 42, 3) := by decide +kernel
theorem dX11_token_230 : decode cX11_token 230 = .ok (.iaload, 1) := by decide +kernel
theorem dX11_token_231 : decode cX11_token 231 = .ok (.iadd, 1) := by decide +kernel
theorem dX11_token_232 : decode cX11_token 232 = .ok (.bipush 48, 2) := by decide +kernel
theorem dX11_token_234 : decode cX11_token 234 = .ok (.isub, 1) := by decide +kernel
theorem dX11_token_235 : decode cX11_token 235 = .ok (.putfield 51, 3) := by decide +kernel
theorem dX11_token_238 : decode cX11_token 238 = .ok (.aload_n 0, 1) := by decide +kernel
theorem dX11_token_239 : decode cX11_token 239 = .ok (.dup, 1) := by decide +kernel
theorem dX11_token_240 : decode cX11_token 240 = .ok (.getfield 42, 3) := by decide +kernel
theorem dX11_token_243 : decode cX11_token 243 = .ok (.iconst 1, 1) := by decide +kernel
theorem dX11_token_244 : decode cX11_token 244 = .ok (.iadd, 1) := by decide +kernel
theorem dX11_token_245 : decode cX11_token 245 = .ok (.putfield 42, 3) := by decide +kernel
theorem dX11_token_248 : decode cX11_token 248 = .ok (.goto (-73), 3) := by decide +kernel
theorem dX11_token_251 : decode cX11_token 251 = .ok (.aload_n 0, 1) := by decide +kernel
theorem dX11_token_252 : decode cX11_token 252 = .ok (.aload_n 0, 1) := by decide +kernel
theorem dX11_token_253 : decode cX11_token 253 = .ok (.getfield 42, 3) := by decide +kernel
theorem dX11_token_256 : decode cX11_token 256 = .ok (.aload_n 0, 1) := by decide +kernel
theorem dX11_token_257 : decode cX11_token 257 = .ok (.getfield 48, 3) := by decide +kernel
theorem dX11_token_260 : decode cX11_token 260 = .ok (.isub, 1) := by decide +kernel
theorem dX11_token_261 : decode cX11_token 261 = .ok (.iconst 3, 1) := by decide +kernel
theorem dX11_token_262 : decode cX11_token 262 = .ok (.if_icmp .le 7, 3) := by decide +kernel
theorem dX11_token_265 : decode cX11_token 265 = .ok (.iconst 4, 1) := by decide +kernel
theorem dX11_token_266 : decode cX11_token 266 = .ok (.goto 4, 3) := by decide +kernel
theorem dX11_token_269 : decode cX11_token 269 = .ok (.iconst 2, 1) := by decide +kernel
theorem dX11_token_270 : decode cX11_token 270 = .ok (.putfield 45, 3) := by decide +kernel
theorem dX11_token_273 : decode cX11_token 273 = .ok (.return_, 1) := by decide +kernel
theorem dX11_token_274 : decode cX11_token 274 = .ok (.aload_n 0, 1) := by decide +kernel
theorem dX11_token_275 : decode cX11_token 275 = .ok (.aload_n 0, 1) := by decide +kernel
theorem dX11_token_276 : decode cX11_token 276 = .ok (.getfield 24, 3) := by decide +kernel
theorem dX11_token_279 : decode cX11_token 279 = .ok (.aload_n 0, 1) := by decide +kernel
theorem dX11_token_280 : decode cX11_token 280 = .ok (.getfield 42, 3) := by decide +kernel
theorem dX11_token_283 : decode cX11_token 283 = .ok (.iaload, 1) := by decide +kernel
theorem dX11_token_284 : decode cX11_token 284 = .ok (.bipush 59, 2) := by decide +kernel
theorem dX11_token_286 : decode cX11_token 286 = .ok (.if_icmp .ne 7, 3) := by decide +kernel
theorem dX11_token_289 : decode cX11_token 289 = .ok (.iconst 3, 1) := by decide +kernel
theorem dX11_token_290 : decode cX11_token 290 = .ok (.goto 4, 3) := by decide +kernel
theorem dX11_token_293 : decode cX11_token 293 = .ok (.iconst 4, 1) := by decide +kernel
theorem dX11_token_294 : decode cX11_token 294 = .ok (.putfield 45, 3) := by decide +kernel
theorem dX11_token_297 : decode cX11_token 297 = .ok (.aload_n 0, 1) := by decide +kernel
theorem dX11_token_298 : decode cX11_token 298 = .ok (.dup, 1) := by decide +kernel
theorem dX11_token_299 : decode cX11_token 299 = .ok (.getfield 42, 3) := by decide +kernel
theorem dX11_token_302 : decode cX11_token 302 = .ok (.iconst 1, 1) := by decide +kernel
theorem dX11_token_303 : decode cX11_token 303 = .ok (.iadd, 1) := by decide +kernel
theorem dX11_token_304 : decode cX11_token 304 = .ok (.putfield 42, 3) := by decide +kernel
theorem dX11_token_307 : decode cX11_token 307 = .ok (.return_, 1) := by decide +kernel
theorem dX11_begin_0 : decode cX11_begin 0 = .ok (.aload_n 0, 1) := by decide +kernel
theorem dX11_begin_1 : decode cX11_begin 1 = .ok (.iconst 0, 1) := by decide +kernel
theorem dX11_begin_2 : decode cX11_begin 2 = .ok (.putfield 30, 3) := by decide +kernel
theorem dX11_begin_5 : decode cX11_begin 5 = .ok (.aload_n 0, 1) := by decide +kernel
theorem dX11_begin_6 : decode cX11_begin 6 = .ok (.iconst (-1), 1) := by decide +kernel
theorem dX11_begin_7 : decode cX11_begin 7 = .ok (.putfield 33, 3) := by decide +kernel
theorem dX11_begin_10 : decode cX11_begin 10 = .ok (.aload_n 0, 1) := by decide +kernel
theorem dX11_begin_11 : decode cX11_begin 11 = .ok (.iconst 0, 1) := by decide +kernel
theorem dX11_begin_12 : decode cX11_begin 12 = .ok (.putfield 42, 3) := by decide +kernel
theorem dX11_begin_15 : decode cX11_begin 15 = .ok (.aload_n 0, 1) := by decide +kernel
theorem dX11_begin_16 : decode cX11_begin 16 = .ok (.invokevirtual 159, 3) := by decide +kernel
theorem dX11_begin_19 : decode cX11_begin 19 = .ok (.return_, 1) := by decide +kernel
theorem dX11_wrong_0 : decode cX11_wrong 0 = .ok (.aload_n 0, 1) := by decide +kernel
theorem dX11_wrong_1 : decode cX11_wrong 1 = .ok (.iload_n 1, 1) := by decide +kernel
theorem dX11_wrong_2 : decode cX11_wrong 2 = .ok (.putfield 30, 3) := by decide +kernel
theorem dX11_wrong_5 : decode cX11_wrong 5 = .ok (.aload_n 0, 1) := by decide +kernel
theorem dX11_wrong_6 : decode cX11_wrong 6 = .ok (.aload_n 0, 1) := by decide +kernel
theorem dX11_wrong_7 : decode cX11_wrong 7 = .ok (.getfield 48, 3) := by decide +kernel
theorem dX11_wrong_10 : decode cX11_wrong 10 = .ok (.putfield 33, 3) := by decide +kernel
theorem dX11_wrong_13 : decode cX11_wrong 13 = .ok (.iconst 0, 1) := by decide +kernel
theorem dX11_wrong_14 : decode cX11_wrong 14 = .ok (.ireturn, 1) := by decide +kernel
theorem dX11_isWord_0 : decode cX11_isWord 0 = .ok (.aload_n 0, 1) := by decide +kernel
theorem dX11_isWord_1 : decode cX11_isWord 1 = .ok (.getfield 45, 3) := by decide +kernel
theorem dX11_isWord_4 : decode cX11_isWord 4 = .ok (.iconst 1, 1) := by decide +kernel
theorem dX11_isWord_5 : decode cX11_isWord 5 = .ok (.if_icmp .ne 19, 3) := by decide +kernel
theorem dX11_isWord_8 : decode cX11_isWord 8 = .ok (.aload_n 0, 1) := by decide +kernel
theorem dX11_isWord_9 : decode cX11_isWord 9 = .ok (.getfield 42, 3) := by decide +kernel
theorem dX11_isWord_12 : decode cX11_isWord 12 = .ok (.aload_n 0, 1) := by decide +kernel
theorem dX11_isWord_13 : decode cX11_isWord 13 = .ok (.getfield 48, 3) := by decide +kernel
theorem dX11_isWord_16 : decode cX11_isWord 16 = .ok (.isub, 1) := by decide +kernel
theorem dX11_isWord_17 : decode cX11_isWord 17 = .ok (.aload_n 1, 1) := by decide +kernel
theorem dX11_isWord_18 : decode cX11_isWord 18 = .ok (.invokevirtual 62, 3) := by decide +kernel
theorem dX11_isWord_21 : decode cX11_isWord 21 = .ok (.if_icmp .eq 5, 3) := by decide +kernel
theorem dX11_isWord_24 : decode cX11_isWord 24 = .ok (.iconst 0, 1) := by decide +kernel
theorem dX11_isWord_25 : decode cX11_isWord 25 = .ok (.ireturn, 1) := by decide +kernel
theorem dX11_isWord_26 : decode cX11_isWord 26 = .ok (.iconst 0, 1) := by decide +kernel
theorem dX11_isWord_27 : decode cX11_isWord 27 = .ok (.istore_n 2, 1) := by decide +kernel
theorem dX11_isWord_28 : decode cX11_isWord 28 = .ok (.iload_n 2, 1) := by decide +kernel
theorem dX11_isWord_29 : decode cX11_isWord 29 = .ok (.aload_n 1, 1) := by decide +kernel
theorem dX11_isWord_30 : decode cX11_isWord 30 = .ok (.invokevirtual 62, 3) := by decide +kernel
theorem dX11_isWord_33 : decode cX11_isWord 33 = .ok (.if_icmp .ge 30, 3) := by decide +kernel
theorem dX11_isWord_36 : decode cX11_isWord 36 = .ok (.aload_n 0, 1) := by decide +kernel
theorem dX11_isWord_37 : decode cX11_isWord 37 = .ok (.getfield 24, 3) := by decide +kernel
theorem dX11_isWord_40 : decode cX11_isWord 40 = .ok (.aload_n 0, 1) := by decide +kernel
theorem dX11_isWord_41 : decode cX11_isWord 41 = .ok (.getfield 48, 3) := by decide +kernel
theorem dX11_isWord_44 : decode cX11_isWord 44 = .ok (.iload_n 2, 1) := by decide +kernel
theorem dX11_isWord_45 : decode cX11_isWord 45 = .ok (.iadd, 1) := by decide +kernel
theorem dX11_isWord_46 : decode cX11_isWord 46 = .ok (.iaload, 1) := by decide +kernel
theorem dX11_isWord_47 : decode cX11_isWord 47 = .ok (.aload_n 1, 1) := by decide +kernel
theorem dX11_isWord_48 : decode cX11_isWord 48 = .ok (.iload_n 2, 1) := by decide +kernel
theorem dX11_isWord_49 : decode cX11_isWord 49 = .ok (.invokevirtual 68, 3) := by decide +kernel
theorem dX11_isWord_52 : decode cX11_isWord 52 = .ok (.if_icmp .eq 5, 3) := by decide +kernel
theorem dX11_isWord_55 : decode cX11_isWord 55 = .ok (.iconst 0, 1) := by decide +kernel
theorem dX11_isWord_56 : decode cX11_isWord 56 = .ok (.ireturn, 1) := by decide +kernel
theorem dX11_isWord_57 : decode cX11_isWord 57 = .ok (.iinc 2 1, 3) := by decide +kernel
theorem dX11_isWord_60 : decode cX11_isWord 60 = .ok (.goto (-32), 3) := by decide +kernel
theorem dX11_isWord_63 : decode cX11_isWord 63 = .ok (.iconst 1, 1) := by decide +kernel
theorem dX11_isWord_64 : decode cX11_isWord 64 = .ok (.ireturn, 1) := by decide +kernel
theorem dX11_semicolon_0 : decode cX11_semicolon 0 = .ok (.aload_n 0, 1) := by decide +kernel
theorem dX11_semicolon_1 : decode cX11_semicolon 1 = .ok (.getfield 45, 3) := by decide +kernel
theorem dX11_semicolon_4 : decode cX11_semicolon 4 = .ok (.iconst 3, 1) := by decide +kernel
theorem dX11_semicolon_5 : decode cX11_semicolon 5 = .ok (.if_icmp .eq 9, 3) := by decide +kernel
theorem dX11_semicolon_8 : decode cX11_semicolon 8 = .ok (.aload_n 0, 1) := by decide +kernel
theorem dX11_semicolon_9 : decode cX11_semicolon 9 = .ok (.iconst 1, 1) := by decide +kernel
theorem dX11_semicolon_10 : decode cX11_semicolon 10 = .ok (.invokevirtual 162, 3) := by decide +kernel
theorem dX11_semicolon_13 : decode cX11_semicolon 13 = .ok (.ireturn, 1) := by decide +kernel
theorem dX11_semicolon_14 : decode cX11_semicolon 14 = .ok (.aload_n 0, 1) := by decide +kernel
theorem dX11_semicolon_15 : decode cX11_semicolon 15 = .ok (.invokevirtual 159, 3) := by decide +kernel
theorem dX11_semicolon_18 : decode cX11_semicolon 18 = .ok (.iconst 1, 1) := by decide +kernel
theorem dX11_semicolon_19 : decode cX11_semicolon 19 = .ok (.ireturn, 1) := by decide +kernel
theorem dX11_clerkNamed_0 : decode cX11_clerkNamed 0 = .ok (.iconst 0, 1) := by decide +kernel
theorem dX11_clerkNamed_1 : decode cX11_clerkNamed 1 = .ok (.istore_n 3, 1) := by decide +kernel
theorem dX11_clerkNamed_2 : decode cX11_clerkNamed 2 = .ok (.iload_n 3, 1) := by decide +kernel
theorem dX11_clerkNamed_3 : decode cX11_clerkNamed 3 = .ok (.aload_n 0, 1) := by decide +kernel
theorem dX11_clerkNamed_4 : decode cX11_clerkNamed 4 = .ok (.getfield 13, 3) := by decide +kernel
theorem dX11_clerkNamed_7 : decode cX11_clerkNamed 7 = .ok (.bipush 7, 2) := by decide +kernel
theorem dX11_clerkNamed_9 : decode cX11_clerkNamed 9 = .ok (.iaload, 1) := by decide +kernel
theorem dX11_clerkNamed_10 : decode cX11_clerkNamed 10 = .ok (.if_icmp .ge 94, 3) := by decide +kernel
theorem dX11_clerkNamed_13 : decode cX11_clerkNamed 13 = .ok (.bipush 22, 2) := by decide +kernel
theorem dX11_clerkNamed_15 : decode cX11_clerkNamed 15 = .ok (.iload_n 3, 1) := by decide +kernel
theorem dX11_clerkNamed_16 : decode cX11_clerkNamed 16 = .ok (.bipush 7, 2) := by decide +kernel
theorem dX11_clerkNamed_18 : decode cX11_clerkNamed 18 = .ok (.imul, 1) := by decide +kernel
theorem dX11_clerkNamed_19 : decode cX11_clerkNamed 19 = .ok (.iadd, 1) := by decide +kernel
theorem dX11_clerkNamed_20 : decode cX11_clerkNamed 20 = .ok (.istore 4, 2) := by decide +kernel
theorem dX11_clerkNamed_22 : decode cX11_clerkNamed 22 = .ok (.aload_n 0, 1) := by decide +kernel
theorem dX11_clerkNamed_23 : decode cX11_clerkNamed 23 = .ok (.getfield 13, 3) := by decide +kernel
theorem dX11_clerkNamed_26 : decode cX11_clerkNamed 26 = .ok (.iload 4, 2) := by decide +kernel
theorem dX11_clerkNamed_28 : decode cX11_clerkNamed 28 = .ok (.iaload, 1) := by decide +kernel
theorem dX11_clerkNamed_29 : decode cX11_clerkNamed 29 = .ok (.iload_n 2, 1) := by decide +kernel
theorem dX11_clerkNamed_30 : decode cX11_clerkNamed 30 = .ok (.if_icmp .ne 7, 3) := by decide +kernel
theorem dX11_clerkNamed_33 : decode cX11_clerkNamed 33 = .ok (.iconst 1, 1) := by decide +kernel
theorem dX11_clerkNamed_34 : decode cX11_clerkNamed 34 = .ok (.goto 4, 3) := by decide +kernel
theorem dX11_clerkNamed_37 : decode cX11_clerkNamed 37 = .ok (.iconst 0, 1) := by decide +kernel
theorem dX11_clerkNamed_38 : decode cX11_clerkNamed 38 = .ok (.istore 5, 2) := by decide +kernel
theorem dX11_clerkNamed_40 : decode cX11_clerkNamed 40 = .ok (.iconst 0, 1) := by decide +kernel
theorem dX11_clerkNamed_41 : decode cX11_clerkNamed 41 = .ok (.istore 6, 2) := by decide +kernel
theorem dX11_clerkNamed_43 : decode cX11_clerkNamed 43 = .ok (.iload 5, 2) := by decide +kernel
theorem dX11_clerkNamed_45 : decode cX11_clerkNamed 45 = .ok (.ifCond .eq 46, 3) := by decide +kernel
theorem dX11_clerkNamed_48 : decode cX11_clerkNamed 48 = .ok (.iload 6, 2) := by decide +kernel
theorem dX11_clerkNamed_50 : decode cX11_clerkNamed 50 = .ok (.iload_n 2, 1) := by decide +kernel
theorem dX11_clerkNamed_51 : decode cX11_clerkNamed 51 = .ok (.if_icmp .ge 40, 3) := by decide +kernel
theorem dX11_clerkNamed_54 : decode cX11_clerkNamed 54 = .ok (.aload_n 0, 1) := by decide +kernel
theorem dX11_clerkNamed_55 : decode cX11_clerkNamed 55 = .ok (.getfield 13, 3) := by decide +kernel
theorem dX11_clerkNamed_58 : decode cX11_clerkNamed 58 = .ok (.iload 4, 2) := by decide +kernel
theorem dX11_clerkNamed_60 : decode cX11_clerkNamed 60 = .ok (.iconst 1, 1) := by decide +kernel
theorem dX11_clerkNamed_61 : decode cX11_clerkNamed 61 = .ok (.iadd, 1) := by decide +kernel
theorem dX11_clerkNamed_62 : decode cX11_clerkNamed 62 = .ok (.iload 6, 2) := by decide +kernel
theorem dX11_clerkNamed_64 : decode cX11_clerkNamed 64 = .ok (.iadd, 1) := by decide +kernel
theorem dX11_clerkNamed_65 : decode cX11_clerkNamed 65 = .ok (.iaload, 1) := by decide +kernel
theorem dX11_clerkNamed_66 : decode cX11_clerkNamed 66 = .ok (.aload_n 0, 1) := by decide +kernel
theorem dX11_clerkNamed_67 : decode cX11_clerkNamed 67 = .ok (.getfield 24, 3) := by decide +kernel
theorem dX11_clerkNamed_70 : decode cX11_clerkNamed 70 = .ok (.iload_n 1, 1) := by decide +kernel
theorem dX11_clerkNamed_71 : decode cX11_clerkNamed 71 = .ok (.iload 6, 2) := by decide +kernel
theorem dX11_clerkNamed_73 : decode cX11_clerkNamed 73 = .ok (.iadd, 1) := by decide +kernel
theorem dX11_clerkNamed_74 : decode cX11_clerkNamed 74 = .ok (.iaload, 1) := by decide +kernel
theorem dX11_clerkNamed_75 : decode cX11_clerkNamed 75 = .ok (.if_icmp .ne 7, 3) := by decide +kernel
theorem dX11_clerkNamed_78 : decode cX11_clerkNamed 78 = .ok (.iconst 1, 1) := by decide +kernel
theorem dX11_clerkNamed_79 : decode cX11_clerkNamed 79 = .ok (.goto 4, 3) := by decide +kernel
theorem dX11_clerkNamed_82 : decode cX11_clerkNamed 82 = .ok (.iconst 0, 1) := by decide +kernel
theorem dX11_clerkNamed_83 : decode cX11_clerkNamed 83 = .ok (.istore 5, 2) := by decide +kernel
theorem dX11_clerkNamed_85 : decode cX11_clerkNamed 85 = .ok (.iinc 6 1, 3) := by decide +kernel
theorem dX11_clerkNamed_88 : decode cX11_clerkNamed 88 = .ok (.goto (-45), 3) := by decide +kernel
theorem dX11_clerkNamed_91 : decode cX11_clerkNamed 91 = .ok (.iload 5, 2) := by decide +kernel
theorem dX11_clerkNamed_93 : decode cX11_clerkNamed 93 = .ok (.ifCond .eq 5, 3) := by decide +kernel
theorem dX11_clerkNamed_96 : decode cX11_clerkNamed 96 = .ok (.iload_n 3, 1) := by decide +kernel
theorem dX11_clerkNamed_97 : decode cX11_clerkNamed 97 = .ok (.ireturn, 1) := by decide +kernel
theorem dX11_clerkNamed_98 : decode cX11_clerkNamed 98 = .ok (.iinc 3 1, 3) := by decide +kernel
theorem dX11_clerkNamed_101 : decode cX11_clerkNamed 101 = .ok (.goto (-99), 3) := by decide +kernel
theorem dX11_clerkNamed_104 : decode cX11_clerkNamed 104 = .ok (.iconst (-1), 1) := by decide +kernel
theorem dX11_clerkNamed_105 : decode cX11_clerkNamed 105 = .ok (.ireturn, 1) := by decide +kernel
theorem dX11_isShortWord_0 : decode cX11_isShortWord 0 = .ok (.aload_n 0, 1) := by decide +kernel
theorem dX11_isShortWord_1 : decode cX11_isShortWord 1 = .ok (.getfield 45, 3) := by decide +kernel
theorem dX11_isShortWord_4 : decode cX11_isShortWord 4 = .ok (.iconst 1, 1) := by decide +kernel
theorem dX11_isShortWord_5 : decode cX11_isShortWord 5 = .ok (.if_icmp .eq 9, 3) := by decide +kernel
theorem dX11_isShortWord_8 : decode cX11_isShortWord 8 = .ok (.aload_n 0, 1) := by decide +kernel
theorem dX11_isShortWord_9 : decode cX11_isShortWord 9 = .ok (.iconst 1, 1) := by decide +kernel
theorem dX11_isShortWord_10 : decode cX11_isShortWord 10 = .ok (.invokevirtual 162, 3) := by decide +kernel
theorem dX11_isShortWord_13 : decode cX11_isShortWord 13 = .ok (.ireturn, 1) := by decide +kernel
theorem dX11_isShortWord_14 : decode cX11_isShortWord 14 = .ok (.aload_n 0, 1) := by decide +kernel
theorem dX11_isShortWord_15 : decode cX11_isShortWord 15 = .ok (.getfield 42, 3) := by decide +kernel
theorem dX11_isShortWord_18 : decode cX11_isShortWord 18 = .ok (.aload_n 0, 1) := by decide +kernel
theorem dX11_isShortWord_19 : decode cX11_isShortWord 19 = .ok (.getfield 48, 3) := by decide +kernel
theorem dX11_isShortWord_22 : decode cX11_isShortWord 22 = .ok (.isub, 1) := by decide +kernel
theorem dX11_isShortWord_23 : decode cX11_isShortWord 23 = .ok (.bipush 6, 2) := by decide +kernel
theorem dX11_isShortWord_25 : decode cX11_isShortWord 25 = .ok (.if_icmp .le 11, 3) := by decide +kernel
theorem dX11_isShortWord_28 : decode cX11_isShortWord 28 = .ok (.aload_n 0, 1) := by decide +kernel
theorem dX11_isShortWord_29 : decode cX11_isShortWord 29 = .ok (.iconst 3, 1) := by decide +kernel
theorem dX11_isShortWord_30 : decode cX11_isShortWord 30 = .ok (.invokevirtual 162, 3) := by decide +kernel
theorem dX11_isShortWord_33 : decode cX11_isShortWord 33 = .ok (.ifCond .eq 7, 3) := by decide +kernel
theorem dX11_isShortWord_36 : decode cX11_isShortWord 36 = .ok (.iconst 1, 1) := by decide +kernel
theorem dX11_isShortWord_37 : decode cX11_isShortWord 37 = .ok (.goto 4, 3) := by decide +kernel
theorem dX11_isShortWord_40 : decode cX11_isShortWord 40 = .ok (.iconst 0, 1) := by decide +kernel
theorem dX11_isShortWord_41 : decode cX11_isShortWord 41 = .ok (.ireturn, 1) := by decide +kernel
theorem dX11_parseRanged_0 : decode cX11_parseRanged 0 = .ok (.aload_n 0, 1) := by decide +kernel
theorem dX11_parseRanged_1 : decode cX11_parseRanged 1 = .ok (.getfield 45, 3) := by decide +kernel
theorem dX11_parseRanged_4 : decode cX11_parseRanged 4 = .ok (.iconst 2, 1) := by decide +kernel
theorem dX11_parseRanged_5 : decode cX11_parseRanged 5 = .ok (.if_icmp .eq 9, 3) := by decide +kernel
theorem dX11_parseRanged_8 : decode cX11_parseRanged 8 = .ok (.aload_n 0, 1) := by decide +kernel
theorem dX11_parseRanged_9 : decode cX11_parseRanged 9 = .ok (.iconst 1, 1) := by decide +kernel
theorem dX11_parseRanged_10 : decode cX11_parseRanged 10 = .ok (.invokevirtual 162, 3) := by decide +kernel
theorem dX11_parseRanged_13 : decode cX11_parseRanged 13 = .ok (.ireturn, 1) := by decide +kernel
theorem dX11_parseRanged_14 : decode cX11_parseRanged 14 = .ok (.aload_n 0, 1) := by decide +kernel
theorem dX11_parseRanged_15 : decode cX11_parseRanged 15 = .ok (.getfield 51, 3) := by decide +kernel
theorem dX11_parseRanged_18 : decode cX11_parseRanged 18 = .ok (.iload_n 2, 1) := by decide +kernel
theorem dX11_parseRanged_19 : decode cX11_parseRanged 19 = .ok (.iload_n 3, 1) := by decide +kernel
theorem dX11_parseRanged_20 : decode cX11_parseRanged 20 = .ok (.invokestatic 79, 3) := by decide +kernel
theorem dX11_parseRanged_23 : decode cX11_parseRanged 23 = .ok (.ifCond .ne 9, 3) := by decide +kernel
theorem dX11_parseRanged_26 : decode cX11_parseRanged 26 = .ok (.aload_n 0, 1) := by decide +kernel
theorem dX11_parseRanged_27 : decode cX11_parseRanged 27 = .ok (.iconst 2, 1) := by decide +kernel
theorem dX11_parseRanged_28 : decode cX11_parseRanged 28 = .ok (.invokevirtual 162, 3) := by decide +kernel
theorem dX11_parseRanged_31 : decode cX11_parseRanged 31 = .ok (.ireturn, 1) := by decide +kernel
theorem dX11_parseRanged_32 : decode cX11_parseRanged 32 = .ok (.aload_n 0, 1) := by decide +kernel
theorem dX11_parseRanged_33 : decode cX11_parseRanged 33 = .ok (.getfield 13, 3) := by decide +kernel
theorem dX11_parseRanged_36 : decode cX11_parseRanged 36 = .ok (.iload_n 1, 1) := by decide +kernel
theorem dX11_parseRanged_37 : decode cX11_parseRanged 37 = .ok (.aload_n 0, 1) := by decide +kernel
theorem dX11_parseRanged_38 : decode cX11_parseRanged 38 = .ok (.getfield 51, 3) := by decide +kernel
theorem dX11_parseRanged_41 : decode cX11_parseRanged 41 = .ok (.iastore, 1) := by decide +kernel
theorem dX11_parseRanged_42 : decode cX11_parseRanged 42 = .ok (.aload_n 0, 1) := by decide +kernel
theorem dX11_parseRanged_43 : decode cX11_parseRanged 43 = .ok (.invokevirtual 159, 3) := by decide +kernel
theorem dX11_parseRanged_46 : decode cX11_parseRanged 46 = .ok (.iconst 1, 1) := by decide +kernel
theorem dX11_parseRanged_47 : decode cX11_parseRanged 47 = .ok (.ireturn, 1) := by decide +kernel
theorem dX11_parseSettings_0 : decode cX11_parseSettings 0 = .ok (.aload_n 0, 1) := by decide +kernel
theorem dX11_parseSettings_1 : decode cX11_parseSettings 1 = .ok (.iconst 0, 1) := by decide +kernel
theorem dX11_parseSettings_2 : decode cX11_parseSettings 2 = .ok (.iconst 0, 1) := by decide +kernel
theorem dX11_parseSettings_3 : decode cX11_parseSettings 3 = .ok (.iconst 4, 1) := by decide +kernel
theorem dX11_parseSettings_4 : decode cX11_parseSettings 4 = .ok (.invokevirtual 165, 3) := by decide +kernel
theorem dX11_parseSettings_7 : decode cX11_parseSettings 7 = .ok (.ifCond .eq 35, 3) := by decide +kernel
theorem dX11_parseSettings_10 : decode cX11_parseSettings 10 = .ok (.aload_n 0, 1) := by decide +kernel
theorem dX11_parseSettings_11 : decode cX11_parseSettings 11 = .ok (.iconst 1, 1) := by decide +kernel
theorem dX11_parseSettings_12 : decode cX11_parseSettings 12 = .ok (.iconst 0, 1) := by decide +kernel
theorem dX11_parseSettings_13 : decode cX11_parseSettings 13 = .ok (.iconst 5, 1) := by decide +kernel
theorem dX11_parseSettings_14 : decode cX11_parseSettings 14 = .ok (.invokevirtual 165, 3) := by decide +kernel
theorem dX11_parseSettings_17 : decode cX11_parseSettings 17 = .ok (.ifCond .eq 25, 3) := by decide +kernel
theorem dX11_parseSettings_20 : decode cX11_parseSettings 20 = .ok (.aload_n 0, 1) := by decide +kernel
theorem dX11_parseSettings_21 : decode cX11_parseSettings 21 = .ok (.iconst 2, 1) := by decide +kernel
theorem dX11_parseSettings_22 : decode cX11_parseSettings 22 = .ok (.iconst 1, 1) := by decide +kernel
theorem dX11_parseSettings_23 : decode cX11_parseSettings 23 = .ok (.bipush 99, 2) := by decide +kernel
theorem dX11_parseSettings_25 : decode cX11_parseSettings 25 = .ok (.invokevirtual 165, 3) := by decide +kernel
theorem dX11_parseSettings_28 : decode cX11_parseSettings 28 = .ok (.ifCond .eq 14, 3) := by decide +kernel
theorem dX11_parseSettings_31 : decode cX11_parseSettings 31 = .ok (.aload_n 0, 1) := by decide +kernel
theorem dX11_parseSettings_32 : decode cX11_parseSettings 32 = .ok (.iconst 3, 1) := by decide +kernel
theorem dX11_parseSettings_33 : decode cX11_parseSettings 33 = .ok (.iconst 0, 1) := by decide +kernel
theorem dX11_parseSettings_34 : decode cX11_parseSettings 34 = .ok (.bipush 9, 2) := by decide +kernel
theorem dX11_parseSettings_36 : decode cX11_parseSettings 36 = .ok (.invokevirtual 165, 3) := by decide +kernel
theorem dX11_parseSettings_39 : decode cX11_parseSettings 39 = .ok (.ifCond .ne 5, 3) := by decide +kernel
theorem dX11_parseSettings_42 : decode cX11_parseSettings 42 = .ok (.iconst 0, 1) := by decide +kernel
theorem dX11_parseSettings_43 : decode cX11_parseSettings 43 = .ok (.ireturn, 1) := by decide +kernel
theorem dX11_parseSettings_44 : decode cX11_parseSettings 44 = .ok (.aload_n 0, 1) := by decide +kernel
theorem dX11_parseSettings_45 : decode cX11_parseSettings 45 = .ok (.iconst 4, 1) := by decide +kernel
theorem dX11_parseSettings_46 : decode cX11_parseSettings 46 = .ok (.iconst 1, 1) := by decide +kernel
theorem dX11_parseSettings_47 : decode cX11_parseSettings 47 = .ok (.bipush 9, 2) := by decide +kernel
theorem dX11_parseSettings_49 : decode cX11_parseSettings 49 = .ok (.invokevirtual 165, 3) := by decide +kernel
theorem dX11_parseSettings_52 : decode cX11_parseSettings 52 = .ok (.ifCond .eq 36, 3) := by decide +kernel
theorem dX11_parseSettings_55 : decode cX11_parseSettings 55 = .ok (.aload_n 0, 1) := by decide +kernel
theorem dX11_parseSettings_56 : decode cX11_parseSettings 56 = .ok (.iconst 5, 1) := by decide +kernel
theorem dX11_parseSettings_57 : decode cX11_parseSettings 57 = .ok (.iconst 1, 1) := by decide +kernel
theorem dX11_parseSettings_58 : decode cX11_parseSettings 58 = .ok (.bipush 20, 2) := by decide +kernel
theorem dX11_parseSettings_60 : decode cX11_parseSettings 60 = .ok (.invokevirtual 165, 3) := by decide +kernel
theorem dX11_parseSettings_63 : decode cX11_parseSettings 63 = .ok (.ifCond .eq 25, 3) := by decide +kernel
theorem dX11_parseSettings_66 : decode cX11_parseSettings 66 = .ok (.aload_n 0, 1) := by decide +kernel
theorem dX11_parseSettings_67 : decode cX11_parseSettings 67 = .ok (.bipush 6, 2) := by decide +kernel
theorem dX11_parseSettings_69 : decode cX11_parseSettings 69 = .ok (.iconst 0, 1) := by decide +kernel
theorem dX11_parseSettings_70 : decode cX11_parseSettings 70 = .ok (.iconst 5, 1) := by decide +kernel
theorem dX11_parseSettings_71 : decode cX11_parseSettings 71 = .ok (.invokevirtual 165, 3) := by decide +kernel
theorem dX11_parseSettings_74 : decode cX11_parseSettings 74 = .ok (.ifCond .eq 14, 3) := by decide +kernel
theorem dX11_parseSettings_77 : decode cX11_parseSettings 77 = .ok (.aload_n 0, 1) := by decide +kernel
theorem dX11_parseSettings_78 : decode cX11_parseSettings 78 = .ok (.invokevirtual 168, 3) := by decide +kernel
theorem dX11_parseSettings_81 : decode cX11_parseSettings 81 = .ok (.ifCond .eq 7, 3) := by decide +kernel
theorem dX11_parseSettings_84 : decode cX11_parseSettings 84 = .ok (.iconst 1, 1) := by decide +kernel
theorem dX11_parseSettings_85 : decode cX11_parseSettings 85 = .ok (.goto 4, 3) := by decide +kernel
theorem dX11_parseSettings_88 : decode cX11_parseSettings 88 = .ok (.iconst 0, 1) := by decide +kernel
theorem dX11_parseSettings_89 : decode cX11_parseSettings 89 = .ok (.ireturn, 1) := by decide +kernel
theorem dX11_parseClerk_0 : decode cX11_parseClerk 0 = .ok (.aload_n 0, 1) := by decide +kernel
theorem dX11_parseClerk_1 : decode cX11_parseClerk 1 = .ok (.getfield 13, 3) := by decide +kernel
theorem dX11_parseClerk_4 : decode cX11_parseClerk 4 = .ok (.bipush 7, 2) := by decide +kernel
theorem dX11_parseClerk_6 : decode cX11_parseClerk 6 = .ok (.iaload, 1) := by decide +kernel
theorem dX11_parseClerk_7 : decode cX11_parseClerk 7 = .ok (.bipush 6, 2) := by decide +kernel
theorem dX11_parseClerk_9 : decode cX11_parseClerk 9 = .ok (.if_icmp .ne 9, 3) := by decide +kernel
theorem dX11_parseClerk_12 : decode cX11_parseClerk 12 = .ok (.aload_n 0, 1) := by decide +kernel
theorem dX11_parseClerk_13 : decode cX11_parseClerk 13 = .ok (.iconst 4, 1) := by decide +kernel
theorem dX11_parseClerk_14 : decode cX11_parseClerk 14 = .ok (.invokevirtual 162, 3) := by decide +kernel
theorem dX11_parseClerk_17 : decode cX11_parseClerk 17 = .ok (.ireturn, 1) := by decide +kernel
theorem dX11_parseClerk_18 : decode cX11_parseClerk 18 = .ok (.aload_n 0, 1) := by decide +kernel
theorem dX11_parseClerk_19 : decode cX11_parseClerk 19 = .ok (.invokevirtual 159, 3) := by decide +kernel
theorem dX11_parseClerk_22 : decode cX11_parseClerk 22 = .ok (.aload_n 0, 1) := by decide +kernel
theorem dX11_parseClerk_23 : decode cX11_parseClerk 23 = .ok (.invokevirtual 171, 3) := by decide +kernel
theorem dX11_parseClerk_26 : decode cX11_parseClerk 26 = .ok (.ifCond .ne 5, 3) := by decide +kernel
theorem dX11_parseClerk_29 : decode cX11_parseClerk 29 = .ok (.iconst 0, 1) := by decide +kernel
theorem dX11_parseClerk_30 : decode cX11_parseClerk 30 = .ok (.ireturn, 1) := by decide +kernel
theorem dX11_parseClerk_31 : decode cX11_parseClerk 31 = .ok (.aload_n 0, 1) := by decide +kernel
theorem dX11_parseClerk_32 : decode cX11_parseClerk 32 = .ok (.aload_n 0, 1) := by decide +kernel
theorem dX11_parseClerk_33 : decode cX11_parseClerk 33 = .ok (.getfield 48, 3) := by decide +kernel
theorem dX11_parseClerk_36 : decode cX11_parseClerk 36 = .ok (.aload_n 0, 1) := by decide +kernel
theorem dX11_parseClerk_37 : decode cX11_parseClerk 37 = .ok (.getfield 42, 3) := by decide +kernel
theorem dX11_parseClerk_40 : decode cX11_parseClerk 40 = .ok (.aload_n 0, 1) := by decide +kernel
theorem dX11_parseClerk_41 : decode cX11_parseClerk 41 = .ok (.getfield 48, 3) := by decide +kernel
theorem dX11_parseClerk_44 : decode cX11_parseClerk 44 = .ok (.isub, 1) := by decide +kernel
theorem dX11_parseClerk_45 : decode cX11_parseClerk 45 = .ok (.invokevirtual 174, 3) := by decide +kernel
theorem dX11_parseClerk_48 : decode cX11_parseClerk 48 = .ok (.iconst (-1), 1) := by decide +kernel
theorem dX11_parseClerk_49 : decode cX11_parseClerk 49 = .ok (.if_icmp .eq 9, 3) := by decide +kernel
theorem dX11_parseClerk_52 : decode cX11_parseClerk 52 = .ok (.aload_n 0, 1) := by decide +kernel
theorem dX11_parseClerk_53 : decode cX11_parseClerk 53 = .ok (.iconst 3, 1) := by decide +kernel
theorem dX11_parseClerk_54 : decode cX11_parseClerk 54 = .ok (.invokevirtual 162, 3) := by decide +kernel
theorem dX11_parseClerk_57 : decode cX11_parseClerk 57 = .ok (.ireturn, 1) := by decide +kernel
theorem dX11_parseClerk_58 : decode cX11_parseClerk 58 = .ok (.bipush 22, 2) := by decide +kernel
theorem dX11_parseClerk_60 : decode cX11_parseClerk 60 = .ok (.aload_n 0, 1) := by decide +kernel
theorem dX11_parseClerk_61 : decode cX11_parseClerk 61 = .ok (.getfield 13, 3) := by decide +kernel
theorem dX11_parseClerk_64 : decode cX11_parseClerk 64 = .ok (.bipush 7, 2) := by decide +kernel
theorem dX11_parseClerk_66 : decode cX11_parseClerk 66 = .ok (.iaload, 1) := by decide +kernel
theorem dX11_parseClerk_67 : decode cX11_parseClerk 67 = .ok (.bipush 7, 2) := by decide +kernel
theorem dX11_parseClerk_69 : decode cX11_parseClerk 69 = .ok (.imul, 1) := by decide +kernel
theorem dX11_parseClerk_70 : decode cX11_parseClerk 70 = .ok (.iadd, 1) := by decide +kernel
theorem dX11_parseClerk_71 : decode cX11_parseClerk 71 = .ok (.istore_n 1, 1) := by decide +kernel
theorem dX11_parseClerk_72 : decode cX11_parseClerk 72 = .ok (.aload_n 0, 1) := by decide +kernel
theorem dX11_parseClerk_73 : decode cX11_parseClerk 73 = .ok (.getfield 13, 3) := by decide +kernel
theorem dX11_parseClerk_76 : decode cX11_parseClerk 76 = .ok (.iload_n 1, 1) := by decide +kernel
theorem dX11_parseClerk_77 : decode cX11_parseClerk 77 = .ok (.aload_n 0, 1) := by decide +kernel
theorem dX11_parseClerk_78 : decode cX11_parseClerk 78 = .ok (.getfield 42, 3) := by decide +kernel
theorem dX11_parseClerk_81 : decode cX11_parseClerk 81 = .ok (.aload_n 0, 1) := by decide +kernel
theorem dX11_parseClerk_82 : decode cX11_parseClerk 82 = .ok (.getfield 48, 3) := by decide +kernel
theorem dX11_parseClerk_85 : decode cX11_parseClerk 85 = .ok (.isub, 1) := by decide +kernel
theorem dX11_parseClerk_86 : decode cX11_parseClerk 86 = .ok (.iastore, 1) := by decide +kernel
theorem dX11_parseClerk_87 : decode cX11_parseClerk 87 = .ok (.aload_n 0, 1) := by decide +kernel
theorem dX11_parseClerk_88 : decode cX11_parseClerk 88 = .ok (.getfield 48, 3) := by decide +kernel
theorem dX11_parseClerk_91 : decode cX11_parseClerk 91 = .ok (.istore_n 2, 1) := by decide +kernel
theorem dX11_parseClerk_92 : decode cX11_parseClerk 92 = .ok (.iload_n 2, 1) := by decide +kernel
theorem dX11_parseClerk_93 : decode cX11_parseClerk 93 = .ok (.aload_n 0, 1) := by decide +kernel
theorem dX11_parseClerk_94 : decode cX11_parseClerk 94 = .ok (.getfield 42, 3) := by decide +kernel
theorem dX11_parseClerk_97 : decode cX11_parseClerk 97 = .ok (.if_icmp .ge 30, 3) := by decide +kernel
theorem dX11_parseClerk_100 : decode cX11_parseClerk 100 = .ok (.aload_n 0, 1) := by decide +kernel
theorem dX11_parseClerk_101 : decode cX11_parseClerk 101 = .ok (.getfield 13, 3) := by decide +kernel
theorem dX11_parseClerk_104 : decode cX11_parseClerk 104 = .ok (.iload_n 1, 1) := by decide +kernel
theorem dX11_parseClerk_105 : decode cX11_parseClerk 105 = .ok (.iconst 1, 1) := by decide +kernel
theorem dX11_parseClerk_106 : decode cX11_parseClerk 106 = .ok (.iadd, 1) := by decide +kernel
theorem dX11_parseClerk_107 : decode cX11_parseClerk 107 = .ok (.iload_n 2, 1) := by decide +kernel
theorem dX11_parseClerk_108 : decode cX11_parseClerk 108 = .ok (.iadd, 1) := by decide +kernel
theorem dX11_parseClerk_109 : decode cX11_parseClerk 109 = .ok (.aload_n 0, 1) := by decide +kernel
theorem dX11_parseClerk_110 : decode cX11_parseClerk 110 = .ok (.getfield 48, 3) := by decide +kernel
theorem dX11_parseClerk_113 : decode cX11_parseClerk 113 = .ok (.isub, 1) := by decide +kernel
theorem dX11_parseClerk_114 : decode cX11_parseClerk 114 = .ok (.aload_n 0, 1) := by decide +kernel
theorem dX11_parseClerk_115 : decode cX11_parseClerk 115 = .ok (.getfield 24, 3) := by decide +kernel
theorem dX11_parseClerk_118 : decode cX11_parseClerk 118 = .ok (.iload_n 2, 1) := by decide +kernel
theorem dX11_parseClerk_119 : decode cX11_parseClerk 119 = .ok (.iaload, 1) := by decide +kernel
theorem dX11_parseClerk_120 : decode cX11_parseClerk 120 = .ok (.iastore, 1) := by decide +kernel
theorem dX11_parseClerk_121 : decode cX11_parseClerk 121 = .ok (.iinc 2 1, 3) := by decide +kernel
theorem dX11_parseClerk_124 : decode cX11_parseClerk 124 = .ok (.goto (-32), 3) := by decide +kernel
theorem dX11_parseClerk_127 : decode cX11_parseClerk 127 = .ok (.aload_n 0, 1) := by decide +kernel
theorem dX11_parseClerk_128 : decode cX11_parseClerk 128 = .ok (.invokevirtual 159, 3) := by decide +kernel
theorem dX11_parseClerk_131 : decode cX11_parseClerk 131 = .ok (.aload_n 0, 1) := by decide +kernel
theorem dX11_parseClerk_132 : decode cX11_parseClerk 132 = .ok (.invokevirtual 168, 3) := by decide +kernel
theorem dX11_parseClerk_135 : decode cX11_parseClerk 135 = .ok (.ifCond .ne 5, 3) := by decide +kernel
theorem dX11_parseClerk_138 : decode cX11_parseClerk 138 = .ok (.iconst 0, 1) := by decide +kernel
theorem dX11_parseClerk_139 : decode cX11_parseClerk 139 = .ok (.ireturn, 1) := by decide +kernel
theorem dX11_parseClerk_140 : decode cX11_parseClerk 140 = .ok (.aload_n 0, 1) := by decide +kernel
theorem dX11_parseClerk_141 : decode cX11_parseClerk 141 = .ok (.getfield 13, 3) := by decide +kernel
theorem dX11_parseClerk_144 : decode cX11_parseClerk 144 = .ok (.bipush 7, 2) := by decide +kernel
theorem dX11_parseClerk_146 : decode cX11_parseClerk 146 = .ok (.dup2, 1) := by decide +kernel
theorem dX11_parseClerk_147 : decode cX11_parseClerk 147 = .ok (.iaload, 1) := by decide +kernel
theorem dX11_parseClerk_148 : decode cX11_parseClerk 148 = .ok (.iconst 1, 1) := by decide +kernel
theorem dX11_parseClerk_149 : decode cX11_parseClerk 149 = .ok (.iadd, 1) := by decide +kernel
theorem dX11_parseClerk_150 : decode cX11_parseClerk 150 = .ok (.iastore, 1) := by decide +kernel
theorem dX11_parseClerk_151 : decode cX11_parseClerk 151 = .ok (.iconst 1, 1) := by decide +kernel
theorem dX11_parseClerk_152 : decode cX11_parseClerk 152 = .ok (.ireturn, 1) := by decide +kernel
theorem dX11_parseLetter_0 : decode cX11_parseLetter 0 = .ok (.aload_n 0, 1) := by decide +kernel
theorem dX11_parseLetter_1 : decode cX11_parseLetter 1 = .ok (.getfield 13, 3) := by decide +kernel
theorem dX11_parseLetter_4 : decode cX11_parseLetter 4 = .ok (.bipush 8, 2) := by decide +kernel
theorem dX11_parseLetter_6 : decode cX11_parseLetter 6 = .ok (.iaload, 1) := by decide +kernel
theorem dX11_parseLetter_7 : decode cX11_parseLetter 7 = .ok (.bipush 12, 2) := by decide +kernel
theorem dX11_parseLetter_9 : decode cX11_parseLetter 9 = .ok (.if_icmp .ne 9, 3) := by decide +kernel
theorem dX11_parseLetter_12 : decode cX11_parseLetter 12 = .ok (.aload_n 0, 1) := by decide +kernel
theorem dX11_parseLetter_13 : decode cX11_parseLetter 13 = .ok (.iconst 4, 1) := by decide +kernel
theorem dX11_parseLetter_14 : decode cX11_parseLetter 14 = .ok (.invokevirtual 162, 3) := by decide +kernel
theorem dX11_parseLetter_17 : decode cX11_parseLetter 17 = .ok (.ireturn, 1) := by decide +kernel
theorem dX11_parseLetter_18 : decode cX11_parseLetter 18 = .ok (.aload_n 0, 1) := by decide +kernel
theorem dX11_parseLetter_19 : decode cX11_parseLetter 19 = .ok (.invokevirtual 159, 3) := by decide +kernel
theorem dX11_parseLetter_22 : decode cX11_parseLetter 22 = .ok (.aload_n 0, 1) := by decide +kernel
theorem dX11_parseLetter_23 : decode cX11_parseLetter 23 = .ok (.invokevirtual 171, 3) := by decide +kernel
theorem dX11_parseLetter_26 : decode cX11_parseLetter 26 = .ok (.ifCond .ne 5, 3) := by decide +kernel
theorem dX11_parseLetter_29 : decode cX11_parseLetter 29 = .ok (.iconst 0, 1) := by decide +kernel
theorem dX11_parseLetter_30 : decode cX11_parseLetter 30 = .ok (.ireturn, 1) := by decide +kernel
theorem dX11_parseLetter_31 : decode cX11_parseLetter 31 = .ok (.aload_n 0, 1) := by decide +kernel
theorem dX11_parseLetter_32 : decode cX11_parseLetter 32 = .ok (.aload_n 0, 1) := by decide +kernel
theorem dX11_parseLetter_33 : decode cX11_parseLetter 33 = .ok (.getfield 48, 3) := by decide +kernel
theorem dX11_parseLetter_36 : decode cX11_parseLetter 36 = .ok (.aload_n 0, 1) := by decide +kernel
theorem dX11_parseLetter_37 : decode cX11_parseLetter 37 = .ok (.getfield 42, 3) := by decide +kernel
theorem dX11_parseLetter_40 : decode cX11_parseLetter 40 = .ok (.aload_n 0, 1) := by decide +kernel
theorem dX11_parseLetter_41 : decode cX11_parseLetter 41 = .ok (.getfield 48, 3) := by decide +kernel
theorem dX11_parseLetter_44 : decode cX11_parseLetter 44 = .ok (.isub, 1) := by decide +kernel
theorem dX11_parseLetter_45 : decode cX11_parseLetter 45 = .ok (.invokevirtual 174, 3) := by decide +kernel
theorem dX11_parseLetter_48 : decode cX11_parseLetter 48 = .ok (.istore_n 1, 1) := by decide +kernel
theorem dX11_parseLetter_49 : decode cX11_parseLetter 49 = .ok (.iload_n 1, 1) := by decide +kernel
theorem dX11_parseLetter_50 : decode cX11_parseLetter 50 = .ok (.iconst (-1), 1) := by decide +kernel
theorem dX11_parseLetter_51 : decode cX11_parseLetter 51 = .ok (.if_icmp .ne 9, 3) := by decide +kernel
theorem dX11_parseLetter_54 : decode cX11_parseLetter 54 = .ok (.aload_n 0, 1) := by decide +kernel
theorem dX11_parseLetter_55 : decode cX11_parseLetter 55 = .ok (.iconst 3, 1) := by decide +kernel
theorem dX11_parseLetter_56 : decode cX11_parseLetter 56 = .ok (.invokevirtual 162, 3) := by decide +kernel
theorem dX11_parseLetter_59 : decode cX11_parseLetter 59 = .ok (.ireturn, 1) := by decide +kernel
theorem dX11_parseLetter_60 : decode cX11_parseLetter 60 = .ok (.aload_n 0, 1) := by decide +kernel
theorem dX11_parseLetter_61 : decode cX11_parseLetter 61 = .ok (.invokevirtual 159, 3) := by decide +kernel
theorem dX11_parseLetter_64 : decode cX11_parseLetter 64 = .ok (.bipush 64, 2) := by decide +kernel
theorem dX11_parseLetter_66 : decode cX11_parseLetter 66 = .ok (.aload_n 0, 1) := by decide +kernel
theorem dX11_parseLetter_67 : decode cX11_parseLetter 67 = .ok (.getfield 13, 3) := by decide +kernel
theorem dX11_parseLetter_70 : decode cX11_parseLetter 70 = .ok (.bipush 8, 2) := by decide +kernel
theorem dX11_parseLetter_72 : decode cX11_parseLetter 72 = .ok (.iaload, 1) := by decide +kernel
theorem dX11_parseLetter_73 : decode cX11_parseLetter 73 = .ok (.bipush 8, 2) := by decide +kernel
theorem dX11_parseLetter_75 : decode cX11_parseLetter 75 = .ok (.imul, 1) := by decide +kernel
theorem dX11_parseLetter_76 : decode cX11_parseLetter 76 = .ok (.iadd, 1) := by decide +kernel
theorem dX11_parseLetter_77 : decode cX11_parseLetter 77 = .ok (.istore_n 2, 1) := by decide +kernel
theorem dX11_parseLetter_78 : decode cX11_parseLetter 78 = .ok (.aload_n 0, 1) := by decide +kernel
theorem dX11_parseLetter_79 : decode cX11_parseLetter 79 = .ok (.iload_n 2, 1) := by decide +kernel
theorem dX11_parseLetter_80 : decode cX11_parseLetter 80 = .ok (.iconst 1, 1) := by decide +kernel
theorem dX11_parseLetter_81 : decode cX11_parseLetter 81 = .ok (.iadd, 1) := by decide +kernel
theorem dX11_parseLetter_82 : decode cX11_parseLetter 82 = .ok (.iconst 1, 1) := by decide +kernel
theorem dX11_parseLetter_83 : decode cX11_parseLetter 83 = .ok (.bipush 30, 2) := by decide +kernel
theorem dX11_parseLetter_85 : decode cX11_parseLetter 85 = .ok (.invokevirtual 165, 3) := by decide +kernel
theorem dX11_parseLetter_88 : decode cX11_parseLetter 88 = .ok (.ifCond .eq 51, 3) := by decide +kernel
theorem dX11_parseLetter_91 : decode cX11_parseLetter 91 = .ok (.aload_n 0, 1) := by decide +kernel
theorem dX11_parseLetter_92 : decode cX11_parseLetter 92 = .ok (.iload_n 2, 1) := by decide +kernel
theorem dX11_parseLetter_93 : decode cX11_parseLetter 93 = .ok (.iconst 2, 1) := by decide +kernel
theorem dX11_parseLetter_94 : decode cX11_parseLetter 94 = .ok (.iadd, 1) := by decide +kernel
theorem dX11_parseLetter_95 : decode cX11_parseLetter 95 = .ok (.iconst 0, 1) := by decide +kernel
theorem dX11_parseLetter_96 : decode cX11_parseLetter 96 = .ok (.sipush 999, 3) := by decide +kernel
theorem dX11_parseLetter_99 : decode cX11_parseLetter 99 = .ok (.invokevirtual 165, 3) := by decide +kernel
theorem dX11_parseLetter_102 : decode cX11_parseLetter 102 = .ok (.ifCond .eq 37, 3) := by decide +kernel
theorem dX11_parseLetter_105 : decode cX11_parseLetter 105 = .ok (.aload_n 0, 1) := by decide +kernel
theorem dX11_parseLetter_106 : decode cX11_parseLetter 106 = .ok (.iload_n 2, 1) := by decide +kernel
theorem dX11_parseLetter_107 : decode cX11_parseLetter 107 = .ok (.iconst 3, 1) := by decide +kernel
theorem dX11_parseLetter_108 : decode cX11_parseLetter 108 = .ok (.iadd, 1) := by decide +kernel
theorem dX11_parseLetter_109 : decode cX11_parseLetter 109 = .ok (.iconst 1, 1) := by decide +kernel
theorem dX11_parseLetter_110 : decode cX11_parseLetter 110 = .ok (.sipush 999, 3) := by decide +kernel
theorem dX11_parseLetter_113 : decode cX11_parseLetter 113 = .ok (.invokevirtual 165, 3) := by decide +kernel
theorem dX11_parseLetter_116 : decode cX11_parseLetter 116 = .ok (.ifCond .eq 23, 3) := by decide +kernel
theorem dX11_parseLetter_119 : decode cX11_parseLetter 119 = .ok (.aload_n 0, 1) := by decide +kernel
theorem dX11_parseLetter_120 : decode cX11_parseLetter 120 = .ok (.iload_n 2, 1) := by decide +kernel
theorem dX11_parseLetter_121 : decode cX11_parseLetter 121 = .ok (.iconst 4, 1) := by decide +kernel
theorem dX11_parseLetter_122 : decode cX11_parseLetter 122 = .ok (.iadd, 1) := by decide +kernel
theorem dX11_parseLetter_123 : decode cX11_parseLetter 123 = .ok (.iconst 0, 1) := by decide +kernel
theorem dX11_parseLetter_124 : decode cX11_parseLetter 124 = .ok (.bipush 9, 2) := by decide +kernel
theorem dX11_parseLetter_126 : decode cX11_parseLetter 126 = .ok (.invokevirtual 165, 3) := by decide +kernel
theorem dX11_parseLetter_129 : decode cX11_parseLetter 129 = .ok (.ifCond .eq 10, 3) := by decide +kernel
theorem dX11_parseLetter_132 : decode cX11_parseLetter 132 = .ok (.aload_n 0, 1) := by decide +kernel
theorem dX11_parseLetter_133 : decode cX11_parseLetter 133 = .ok (.invokevirtual 168, 3) := by decide +kernel
theorem dX11_parseLetter_136 : decode cX11_parseLetter 136 = .ok (.ifCond .ne 5, 3) := by decide +kernel
theorem dX11_parseLetter_139 : decode cX11_parseLetter 139 = .ok (.iconst 0, 1) := by decide +kernel
theorem dX11_parseLetter_140 : decode cX11_parseLetter 140 = .ok (.ireturn, 1) := by decide +kernel
theorem dX11_parseLetter_141 : decode cX11_parseLetter 141 = .ok (.aload_n 0, 1) := by decide +kernel
theorem dX11_parseLetter_142 : decode cX11_parseLetter 142 = .ok (.iload_n 1, 1) := by decide +kernel
theorem dX11_parseLetter_143 : decode cX11_parseLetter 143 = .ok (.aload_n 0, 1) := by decide +kernel
theorem dX11_parseLetter_144 : decode cX11_parseLetter 144 = .ok (.getfield 13, 3) := by decide +kernel
theorem dX11_parseLetter_147 : decode cX11_parseLetter 147 = .ok (.iload_n 2, 1) := by decide +kernel
theorem dX11_parseLetter_148 : decode cX11_parseLetter 148 = .ok (.iconst 1, 1) := by decide +kernel
theorem dX11_parseLetter_149 : decode cX11_parseLetter 149 = .ok (.iadd, 1) := by decide +kernel
theorem dX11_parseLetter_150 : decode cX11_parseLetter 150 = .ok (.iaload, 1) := by decide +kernel
theorem dX11_parseLetter_151 : decode cX11_parseLetter 151 = .ok (.aload_n 0, 1) := by decide +kernel
theorem dX11_parseLetter_152 : decode cX11_parseLetter 152 = .ok (.getfield 13, 3) := by decide +kernel
theorem dX11_parseLetter_155 : decode cX11_parseLetter 155 = .ok (.iload_n 2, 1) := by decide +kernel
theorem dX11_parseLetter_156 : decode cX11_parseLetter 156 = .ok (.iconst 2, 1) := by decide +kernel
theorem dX11_parseLetter_157 : decode cX11_parseLetter 157 = .ok (.iadd, 1) := by decide +kernel
theorem dX11_parseLetter_158 : decode cX11_parseLetter 158 = .ok (.iaload, 1) := by decide +kernel
theorem dX11_parseLetter_159 : decode cX11_parseLetter 159 = .ok (.aload_n 0, 1) := by decide +kernel
theorem dX11_parseLetter_160 : decode cX11_parseLetter 160 = .ok (.getfield 13, 3) := by decide +kernel
theorem dX11_parseLetter_163 : decode cX11_parseLetter 163 = .ok (.iload_n 2, 1) := by decide +kernel
theorem dX11_parseLetter_164 : decode cX11_parseLetter 164 = .ok (.iconst 3, 1) := by decide +kernel
theorem dX11_parseLetter_165 : decode cX11_parseLetter 165 = .ok (.iadd, 1) := by decide +kernel
theorem dX11_parseLetter_166 : decode cX11_parseLetter 166 = .ok (.iaload, 1) := by decide +kernel
theorem dX11_parseLetter_167 : decode cX11_parseLetter 167 = .ok (.aload_n 0, 1) := by decide +kernel
theorem dX11_parseLetter_168 : decode cX11_parseLetter 168 = .ok (.getfield 13, 3) := by decide +kernel
theorem dX11_parseLetter_171 : decode cX11_parseLetter 171 = .ok (.iload_n 2, 1) := by decide +kernel
theorem dX11_parseLetter_172 : decode cX11_parseLetter 172 = .ok (.iconst 4, 1) := by decide +kernel
theorem dX11_parseLetter_173 : decode cX11_parseLetter 173 = .ok (.iadd, 1) := by decide +kernel
theorem dX11_parseLetter_174 : decode cX11_parseLetter 174 = .ok (.iaload, 1) := by decide +kernel
theorem dX11_parseLetter_175 : decode cX11_parseLetter 175 = .ok (.invokevirtual 177, 3) := by decide +kernel
theorem dX11_parseLetter_178 : decode cX11_parseLetter 178 = .ok (.pop, 1) := by decide +kernel
theorem dX11_parseLetter_179 : decode cX11_parseLetter 179 = .ok (.iconst 1, 1) := by decide +kernel
theorem dX11_parseLetter_180 : decode cX11_parseLetter 180 = .ok (.ireturn, 1) := by decide +kernel
theorem dX11_parseSetup_0 : decode cX11_parseSetup 0 = .ok (.iconst 0, 1) := by decide +kernel
theorem dX11_parseSetup_1 : decode cX11_parseSetup 1 = .ok (.istore_n 1, 1) := by decide +kernel
theorem dX11_parseSetup_2 : decode cX11_parseSetup 2 = .ok (.iload_n 1, 1) := by decide +kernel
theorem dX11_parseSetup_3 : decode cX11_parseSetup 3 = .ok (.sipush 160, 3) := by decide +kernel
theorem dX11_parseSetup_6 : decode cX11_parseSetup 6 = .ok (.if_icmp .ge 16, 3) := by decide +kernel
theorem dX11_parseSetup_9 : decode cX11_parseSetup 9 = .ok (.aload_n 0, 1) := by decide +kernel
theorem dX11_parseSetup_10 : decode cX11_parseSetup 10 = .ok (.getfield 13, 3) := by decide +kernel
theorem dX11_parseSetup_13 : decode cX11_parseSetup 13 = .ok (.iload_n 1, 1) := by decide +kernel
theorem dX11_parseSetup_14 : decode cX11_parseSetup 14 = .ok (.iconst 0, 1) := by decide +kernel
theorem dX11_parseSetup_15 : decode cX11_parseSetup 15 = .ok (.iastore, 1) := by decide +kernel
theorem dX11_parseSetup_16 : decode cX11_parseSetup 16 = .ok (.iinc 1 1, 3) := by decide +kernel
theorem dX11_parseSetup_19 : decode cX11_parseSetup 19 = .ok (.goto (-17), 3) := by decide +kernel
theorem dX11_parseSetup_22 : decode cX11_parseSetup 22 = .ok (.aload_n 0, 1) := by decide +kernel
theorem dX11_parseSetup_23 : decode cX11_parseSetup 23 = .ok (.getfield 13, 3) := by decide +kernel
theorem dX11_parseSetup_26 : decode cX11_parseSetup 26 = .ok (.bipush 10, 2) := by decide +kernel
theorem dX11_parseSetup_28 : decode cX11_parseSetup 28 = .ok (.iconst (-1), 1) := by decide +kernel
theorem dX11_parseSetup_29 : decode cX11_parseSetup 29 = .ok (.iastore, 1) := by decide +kernel
theorem dX11_parseSetup_30 : decode cX11_parseSetup 30 = .ok (.aload_n 0, 1) := by decide +kernel
theorem dX11_parseSetup_31 : decode cX11_parseSetup 31 = .ok (.getfield 13, 3) := by decide +kernel
theorem dX11_parseSetup_34 : decode cX11_parseSetup 34 = .ok (.bipush 11, 2) := by decide +kernel
theorem dX11_parseSetup_36 : decode cX11_parseSetup 36 = .ok (.iconst (-1), 1) := by decide +kernel
theorem dX11_parseSetup_37 : decode cX11_parseSetup 37 = .ok (.iastore, 1) := by decide +kernel
theorem dX11_parseSetup_38 : decode cX11_parseSetup 38 = .ok (.aload_n 0, 1) := by decide +kernel
theorem dX11_parseSetup_39 : decode cX11_parseSetup 39 = .ok (.ldc 181, 2) := by decide +kernel
theorem dX11_parseSetup_41 : decode cX11_parseSetup 41 = .ok (.invokevirtual 183, 3) := by decide +kernel
theorem dX11_parseSetup_44 : decode cX11_parseSetup 44 = .ok (.ifCond .ne 9, 3) := by decide +kernel
theorem dX11_parseSetup_47 : decode cX11_parseSetup 47 = .ok (.aload_n 0, 1) := by decide +kernel
theorem dX11_parseSetup_48 : decode cX11_parseSetup 48 = .ok (.iconst 1, 1) := by decide +kernel
theorem dX11_parseSetup_49 : decode cX11_parseSetup 49 = .ok (.invokevirtual 162, 3) := by decide +kernel
theorem dX11_parseSetup_52 : decode cX11_parseSetup 52 = .ok (.ireturn, 1) := by decide +kernel
theorem dX11_parseSetup_53 : decode cX11_parseSetup 53 = .ok (.aload_n 0, 1) := by decide +kernel
theorem dX11_parseSetup_54 : decode cX11_parseSetup 54 = .ok (.invokevirtual 159, 3) := by decide +kernel
theorem dX11_parseSetup_57 : decode cX11_parseSetup 57 = .ok (.aload_n 0, 1) := by decide +kernel
theorem dX11_parseSetup_58 : decode cX11_parseSetup 58 = .ok (.invokevirtual 187, 3) := by decide +kernel
theorem dX11_parseSetup_61 : decode cX11_parseSetup 61 = .ok (.ifCond .ne 5, 3) := by decide +kernel
theorem dX11_parseSetup_64 : decode cX11_parseSetup 64 = .ok (.iconst 0, 1) := by decide +kernel
theorem dX11_parseSetup_65 : decode cX11_parseSetup 65 = .ok (.ireturn, 1) := by decide +kernel
theorem dX11_parseSetup_66 : decode cX11_parseSetup 66 = .ok (.aload_n 0, 1) := by decide +kernel
theorem dX11_parseSetup_67 : decode cX11_parseSetup 67 = .ok (.getfield 13, 3) := by decide +kernel
theorem dX11_parseSetup_70 : decode cX11_parseSetup 70 = .ok (.bipush 13, 2) := by decide +kernel
theorem dX11_parseSetup_72 : decode cX11_parseSetup 72 = .ok (.aload_n 0, 1) := by decide +kernel
theorem dX11_parseSetup_73 : decode cX11_parseSetup 73 = .ok (.getfield 13, 3) := by decide +kernel
theorem dX11_parseSetup_76 : decode cX11_parseSetup 76 = .ok (.iconst 2, 1) := by decide +kernel
theorem dX11_parseSetup_77 : decode cX11_parseSetup 77 = .ok (.iaload, 1) := by decide +kernel
theorem dX11_parseSetup_78 : decode cX11_parseSetup 78 = .ok (.iastore, 1) := by decide +kernel
theorem dX11_parseSetup_79 : decode cX11_parseSetup 79 = .ok (.aload_n 0, 1) := by decide +kernel
theorem dX11_parseSetup_80 : decode cX11_parseSetup 80 = .ok (.getfield 13, 3) := by decide +kernel
theorem dX11_parseSetup_83 : decode cX11_parseSetup 83 = .ok (.bipush 7, 2) := by decide +kernel
theorem dX11_parseSetup_85 : decode cX11_parseSetup 85 = .ok (.iaload, 1) := by decide +kernel
theorem dX11_parseSetup_86 : decode cX11_parseSetup 86 = .ok (.iconst 2, 1) := by decide +kernel
theorem dX11_parseSetup_87 : decode cX11_parseSetup 87 = .ok (.if_icmp .lt 12, 3) := by decide +kernel
theorem dX11_parseSetup_90 : decode cX11_parseSetup 90 = .ok (.aload_n 0, 1) := by decide +kernel
theorem dX11_parseSetup_91 : decode cX11_parseSetup 91 = .ok (.ldc 190, 2) := by decide +kernel
theorem dX11_parseSetup_93 : decode cX11_parseSetup 93 = .ok (.invokevirtual 183, 3) := by decide +kernel
theorem dX11_parseSetup_96 : decode cX11_parseSetup 96 = .ok (.ifCond .eq 27, 3) := by decide +kernel
theorem dX11_parseSetup_99 : decode cX11_parseSetup 99 = .ok (.aload_n 0, 1) := by decide +kernel
theorem dX11_parseSetup_100 : decode cX11_parseSetup 100 = .ok (.ldc 190, 2) := by decide +kernel
theorem dX11_parseSetup_102 : decode cX11_parseSetup 102 = .ok (.invokevirtual 183, 3) := by decide +kernel
theorem dX11_parseSetup_105 : decode cX11_parseSetup 105 = .ok (.ifCond .ne 9, 3) := by decide +kernel
theorem dX11_parseSetup_108 : decode cX11_parseSetup 108 = .ok (.aload_n 0, 1) := by decide +kernel
theorem dX11_parseSetup_109 : decode cX11_parseSetup 109 = .ok (.iconst 1, 1) := by decide +kernel
theorem dX11_parseSetup_110 : decode cX11_parseSetup 110 = .ok (.invokevirtual 162, 3) := by decide +kernel
theorem dX11_parseSetup_113 : decode cX11_parseSetup 113 = .ok (.ireturn, 1) := by decide +kernel
theorem dX11_parseSetup_114 : decode cX11_parseSetup 114 = .ok (.aload_n 0, 1) := by decide +kernel
theorem dX11_parseSetup_115 : decode cX11_parseSetup 115 = .ok (.invokevirtual 192, 3) := by decide +kernel
theorem dX11_parseSetup_118 : decode cX11_parseSetup 118 = .ok (.ifCond .ne (-39), 3) := by decide +kernel
theorem dX11_parseSetup_121 : decode cX11_parseSetup 121 = .ok (.iconst 0, 1) := by decide +kernel
theorem dX11_parseSetup_122 : decode cX11_parseSetup 122 = .ok (.ireturn, 1) := by decide +kernel
theorem dX11_parseSetup_123 : decode cX11_parseSetup 123 = .ok (.aload_n 0, 1) := by decide +kernel
theorem dX11_parseSetup_124 : decode cX11_parseSetup 124 = .ok (.ldc 195, 2) := by decide +kernel
theorem dX11_parseSetup_126 : decode cX11_parseSetup 126 = .ok (.invokevirtual 183, 3) := by decide +kernel
theorem dX11_parseSetup_129 : decode cX11_parseSetup 129 = .ok (.ifCond .eq 12, 3) := by decide +kernel
theorem dX11_parseSetup_132 : decode cX11_parseSetup 132 = .ok (.aload_n 0, 1) := by decide +kernel
theorem dX11_parseSetup_133 : decode cX11_parseSetup 133 = .ok (.invokevirtual 197, 3) := by decide +kernel
theorem dX11_parseSetup_136 : decode cX11_parseSetup 136 = .ok (.ifCond .ne (-13), 3) := by decide +kernel
theorem dX11_parseSetup_139 : decode cX11_parseSetup 139 = .ok (.iconst 0, 1) := by decide +kernel
theorem dX11_parseSetup_140 : decode cX11_parseSetup 140 = .ok (.ireturn, 1) := by decide +kernel
theorem dX11_parseSetup_141 : decode cX11_parseSetup 141 = .ok (.aload_n 0, 1) := by decide +kernel
theorem dX11_parseSetup_142 : decode cX11_parseSetup 142 = .ok (.getfield 45, 3) := by decide +kernel
theorem dX11_parseSetup_145 : decode cX11_parseSetup 145 = .ok (.ifCond .eq 11, 3) := by decide +kernel
theorem dX11_parseSetup_148 : decode cX11_parseSetup 148 = .ok (.aload_n 0, 1) := by decide +kernel
theorem dX11_parseSetup_149 : decode cX11_parseSetup 149 = .ok (.iconst 1, 1) := by decide +kernel
theorem dX11_parseSetup_150 : decode cX11_parseSetup 150 = .ok (.invokevirtual 162, 3) := by decide +kernel
theorem dX11_parseSetup_153 : decode cX11_parseSetup 153 = .ok (.ifCond .eq 7, 3) := by decide +kernel
theorem dX11_parseSetup_156 : decode cX11_parseSetup 156 = .ok (.iconst 1, 1) := by decide +kernel
theorem dX11_parseSetup_157 : decode cX11_parseSetup 157 = .ok (.goto 4, 3) := by decide +kernel
theorem dX11_parseSetup_160 : decode cX11_parseSetup 160 = .ok (.iconst 0, 1) := by decide +kernel
theorem dX11_parseSetup_161 : decode cX11_parseSetup 161 = .ok (.ireturn, 1) := by decide +kernel
theorem dX11_load_0 : decode cX11_load 0 = .ok (.aload_n 0, 1) := by decide +kernel
theorem dX11_load_1 : decode cX11_load 1 = .ok (.iconst 0, 1) := by decide +kernel
theorem dX11_load_2 : decode cX11_load 2 = .ok (.bipush 9, 2) := by decide +kernel
theorem dX11_load_4 : decode cX11_load 4 = .ok (.invokevirtual 83, 3) := by decide +kernel
theorem dX11_load_7 : decode cX11_load 7 = .ok (.aload_n 0, 1) := by decide +kernel
theorem dX11_load_8 : decode cX11_load 8 = .ok (.invokevirtual 72, 3) := by decide +kernel
theorem dX11_load_11 : decode cX11_load 11 = .ok (.aload_n 0, 1) := by decide +kernel
theorem dX11_load_12 : decode cX11_load 12 = .ok (.invokevirtual 75, 3) := by decide +kernel
theorem dX11_load_15 : decode cX11_load 15 = .ok (.istore_n 1, 1) := by decide +kernel
theorem dX11_load_16 : decode cX11_load 16 = .ok (.aload_n 0, 1) := by decide +kernel
theorem dX11_load_17 : decode cX11_load 17 = .ok (.iconst 0, 1) := by decide +kernel
theorem dX11_load_18 : decode cX11_load 18 = .ok (.putfield 27, 3) := by decide +kernel
theorem dX11_load_21 : decode cX11_load 21 = .ok (.iload_n 1, 1) := by decide +kernel
theorem dX11_load_22 : decode cX11_load 22 = .ok (.ifCond .ne 10, 3) := by decide +kernel
theorem dX11_load_25 : decode cX11_load 25 = .ok (.aload_n 0, 1) := by decide +kernel
theorem dX11_load_26 : decode cX11_load 26 = .ok (.bipush 9, 2) := by decide +kernel
theorem dX11_load_28 : decode cX11_load 28 = .ok (.iconst 0, 1) := by decide +kernel
theorem dX11_load_29 : decode cX11_load 29 = .ok (.invokevirtual 83, 3) := by decide +kernel
theorem dX11_load_32 : decode cX11_load 32 = .ok (.aload_n 0, 1) := by decide +kernel
theorem dX11_load_33 : decode cX11_load 33 = .ok (.iload_n 1, 1) := by decide +kernel
theorem dX11_load_34 : decode cX11_load 34 = .ok (.ifCond .ne 7, 3) := by decide +kernel
theorem dX11_load_37 : decode cX11_load 37 = .ok (.iconst 1, 1) := by decide +kernel
theorem dX11_load_38 : decode cX11_load 38 = .ok (.goto 4, 3) := by decide +kernel
theorem dX11_load_41 : decode cX11_load 41 = .ok (.iconst 0, 1) := by decide +kernel
theorem dX11_load_42 : decode cX11_load 42 = .ok (.iconst 0, 1) := by decide +kernel
theorem dX11_load_43 : decode cX11_load 43 = .ok (.iconst 0, 1) := by decide +kernel
theorem dX11_load_44 : decode cX11_load 44 = .ok (.invokevirtual 146, 3) := by decide +kernel
theorem dX11_load_47 : decode cX11_load 47 = .ok (.ifCond .eq 5, 3) := by decide +kernel
theorem dX11_load_50 : decode cX11_load 50 = .ok (.iconst 0, 1) := by decide +kernel
theorem dX11_load_51 : decode cX11_load 51 = .ok (.ireturn, 1) := by decide +kernel
theorem dX11_load_52 : decode cX11_load 52 = .ok (.aload_n 0, 1) := by decide +kernel
theorem dX11_load_53 : decode cX11_load 53 = .ok (.iconst 0, 1) := by decide +kernel
theorem dX11_load_54 : decode cX11_load 54 = .ok (.putfield 21, 3) := by decide +kernel
theorem dX11_load_57 : decode cX11_load 57 = .ok (.aload_n 0, 1) := by decide +kernel
theorem dX11_load_58 : decode cX11_load 58 = .ok (.getfield 17, 3) := by decide +kernel
theorem dX11_load_61 : decode cX11_load 61 = .ok (.iconst 0, 1) := by decide +kernel
theorem dX11_load_62 : decode cX11_load 62 = .ok (.iconst 0, 1) := by decide +kernel
theorem dX11_load_63 : decode cX11_load 63 = .ok (.bastore, 1) := by decide +kernel
theorem dX11_load_64 : decode cX11_load 64 = .ok (.aload_n 0, 1) := by decide +kernel
theorem dX11_load_65 : decode cX11_load 65 = .ok (.getfield 17, 3) := by decide +kernel
theorem dX11_load_68 : decode cX11_load 68 = .ok (.iconst 1, 1) := by decide +kernel
theorem dX11_load_69 : decode cX11_load 69 = .ok (.iconst 0, 1) := by decide +kernel
theorem dX11_load_70 : decode cX11_load 70 = .ok (.bastore, 1) := by decide +kernel
theorem dX11_load_71 : decode cX11_load 71 = .ok (.aload_n 0, 1) := by decide +kernel
theorem dX11_load_72 : decode cX11_load 72 = .ok (.getfield 13, 3) := by decide +kernel
theorem dX11_load_75 : decode cX11_load 75 = .ok (.bipush 8, 2) := by decide +kernel
theorem dX11_load_77 : decode cX11_load 77 = .ok (.iaload, 1) := by decide +kernel
theorem dX11_load_78 : decode cX11_load 78 = .ok (.ireturn, 1) := by decide +kernel
theorem dX11_nameOf_0 : decode cX11_nameOf 0 = .ok (.iload_n 0, 1) := by decide +kernel
theorem dX11_nameOf_1 : decode cX11_nameOf 1 = .ok (.tableswitch 50 0 4 #[35, 38, 41, 44, 47], 35) := by decide +kernel
theorem dX11_nameOf_36 : decode cX11_nameOf 36 = .ok (.ldc 195, 2) := by decide +kernel
theorem dX11_nameOf_38 : decode cX11_nameOf 38 = .ok (.areturn, 1) := by decide +kernel
theorem dX11_nameOf_39 : decode cX11_nameOf 39 = .ok (.ldc 200, 2) := by decide +kernel
theorem dX11_nameOf_41 : decode cX11_nameOf 41 = .ok (.areturn, 1) := by decide +kernel
theorem dX11_nameOf_42 : decode cX11_nameOf 42 = .ok (.ldc 202, 2) := by decide +kernel
theorem dX11_nameOf_44 : decode cX11_nameOf 44 = .ok (.areturn, 1) := by decide +kernel
theorem dX11_nameOf_45 : decode cX11_nameOf 45 = .ok (.ldc 204, 2) := by decide +kernel
theorem dX11_nameOf_47 : decode cX11_nameOf 47 = .ok (.areturn, 1) := by decide +kernel
theorem dX11_nameOf_48 : decode cX11_nameOf 48 = .ok (.ldc 206, 2) := by decide +kernel
theorem dX11_nameOf_50 : decode cX11_nameOf 50 = .ok (.areturn, 1) := by decide +kernel
theorem dX11_nameOf_51 : decode cX11_nameOf 51 = .ok (.ldc 208, 2) := by decide +kernel
theorem dX11_nameOf_53 : decode cX11_nameOf 53 = .ok (.areturn, 1) := by decide +kernel
theorem dX11_commandHere_0 : decode cX11_commandHere 0 = .ok (.iconst 0, 1) := by decide +kernel
theorem dX11_commandHere_1 : decode cX11_commandHere 1 = .ok (.istore_n 1, 1) := by decide +kernel
theorem dX11_commandHere_2 : decode cX11_commandHere 2 = .ok (.iload_n 1, 1) := by decide +kernel
theorem dX11_commandHere_3 : decode cX11_commandHere 3 = .ok (.iconst 5, 1) := by decide +kernel
theorem dX11_commandHere_4 : decode cX11_commandHere 4 = .ok (.if_icmp .gt 22, 3) := by decide +kernel
theorem dX11_commandHere_7 : decode cX11_commandHere 7 = .ok (.aload_n 0, 1) := by decide +kernel
theorem dX11_commandHere_8 : decode cX11_commandHere 8 = .ok (.iload_n 1, 1) := by decide +kernel
theorem dX11_commandHere_9 : decode cX11_commandHere 9 = .ok (.invokestatic 210, 3) := by decide +kernel
theorem dX11_commandHere_12 : decode cX11_commandHere 12 = .ok (.invokevirtual 183, 3) := by decide +kernel
theorem dX11_commandHere_15 : decode cX11_commandHere 15 = .ok (.ifCond .eq 5, 3) := by decide +kernel
theorem dX11_commandHere_18 : decode cX11_commandHere 18 = .ok (.iload_n 1, 1) := by decide +kernel
theorem dX11_commandHere_19 : decode cX11_commandHere 19 = .ok (.ireturn, 1) := by decide +kernel
theorem dX11_commandHere_20 : decode cX11_commandHere 20 = .ok (.iinc 1 1, 3) := by decide +kernel
theorem dX11_commandHere_23 : decode cX11_commandHere 23 = .ok (.goto (-21), 3) := by decide +kernel
theorem dX11_commandHere_26 : decode cX11_commandHere 26 = .ok (.iconst (-1), 1) := by decide +kernel
theorem dX11_commandHere_27 : decode cX11_commandHere 27 = .ok (.ireturn, 1) := by decide +kernel
theorem dX11_parseNumbers_0 : decode cX11_parseNumbers 0 = .ok (.iconst 0, 1) := by decide +kernel
theorem dX11_parseNumbers_1 : decode cX11_parseNumbers 1 = .ok (.istore_n 3, 1) := by decide +kernel
theorem dX11_parseNumbers_2 : decode cX11_parseNumbers 2 = .ok (.iload_n 3, 1) := by decide +kernel
theorem dX11_parseNumbers_3 : decode cX11_parseNumbers 3 = .ok (.iload_n 2, 1) := by decide +kernel
theorem dX11_parseNumbers_4 : decode cX11_parseNumbers 4 = .ok (.if_icmp .ge 39, 3) := by decide +kernel
theorem dX11_parseNumbers_7 : decode cX11_parseNumbers 7 = .ok (.aload_n 0, 1) := by decide +kernel
theorem dX11_parseNumbers_8 : decode cX11_parseNumbers 8 = .ok (.getfield 45, 3) := by decide +kernel
theorem dX11_parseNumbers_11 : decode cX11_parseNumbers 11 = .ok (.iconst 2, 1) := by decide +kernel
theorem dX11_parseNumbers_12 : decode cX11_parseNumbers 12 = .ok (.if_icmp .eq 9, 3) := by decide +kernel
theorem dX11_parseNumbers_15 : decode cX11_parseNumbers 15 = .ok (.aload_n 0, 1) := by decide +kernel
theorem dX11_parseNumbers_16 : decode cX11_parseNumbers 16 = .ok (.iconst 1, 1) := by decide +kernel
theorem dX11_parseNumbers_17 : decode cX11_parseNumbers 17 = .ok (.invokevirtual 162, 3) := by decide +kernel
theorem dX11_parseNumbers_20 : decode cX11_parseNumbers 20 = .ok (.ireturn, 1) := by decide +kernel
theorem dX11_parseNumbers_21 : decode cX11_parseNumbers 21 = .ok (.aload_n 0, 1) := by decide +kernel
theorem dX11_parseNumbers_22 : decode cX11_parseNumbers 22 = .ok (.getfield 54, 3) := by decide +kernel
theorem dX11_parseNumbers_25 : decode cX11_parseNumbers 25 = .ok (.iload_n 1, 1) := by decide +kernel
theorem dX11_parseNumbers_26 : decode cX11_parseNumbers 26 = .ok (.iload_n 3, 1) := by decide +kernel
theorem dX11_parseNumbers_27 : decode cX11_parseNumbers 27 = .ok (.iadd, 1) := by decide +kernel
theorem dX11_parseNumbers_28 : decode cX11_parseNumbers 28 = .ok (.aload_n 0, 1) := by decide +kernel
theorem dX11_parseNumbers_29 : decode cX11_parseNumbers 29 = .ok (.getfield 51, 3) := by decide +kernel
theorem dX11_parseNumbers_32 : decode cX11_parseNumbers 32 = .ok (.iastore, 1) := by decide +kernel
theorem dX11_parseNumbers_33 : decode cX11_parseNumbers 33 = .ok (.aload_n 0, 1) := by decide +kernel
theorem dX11_parseNumbers_34 : decode cX11_parseNumbers 34 = .ok (.invokevirtual 159, 3) := by decide +kernel
theorem dX11_parseNumbers_37 : decode cX11_parseNumbers 37 = .ok (.iinc 3 1, 3) := by decide +kernel
theorem dX11_parseNumbers_40 : decode cX11_parseNumbers 40 = .ok (.goto (-38), 3) := by decide +kernel
theorem dX11_parseNumbers_43 : decode cX11_parseNumbers 43 = .ok (.iconst 1, 1) := by decide +kernel
theorem dX11_parseNumbers_44 : decode cX11_parseNumbers 44 = .ok (.ireturn, 1) := by decide +kernel
theorem dX11_parseArguments_0 : decode cX11_parseArguments 0 = .ok (.iload_n 1, 1) := by decide +kernel
theorem dX11_parseArguments_1 : decode cX11_parseArguments 1 = .ok (.iconst 3, 1) := by decide +kernel
theorem dX11_parseArguments_2 : decode cX11_parseArguments 2 = .ok (.if_icmp .eq 8, 3) := by decide +kernel
theorem dX11_parseArguments_5 : decode cX11_parseArguments 5 = .ok (.iload_n 1, 1) := by decide +kernel
theorem dX11_parseArguments_6 : decode cX11_parseArguments 6 = .ok (.iconst 4, 1) := by decide +kernel
theorem dX11_parseArguments_7 : decode cX11_parseArguments 7 = .ok (.if_icmp .ne 10, 3) := by decide +kernel
theorem dX11_parseArguments_10 : decode cX11_parseArguments 10 = .ok (.aload_n 0, 1) := by decide +kernel
theorem dX11_parseArguments_11 : decode cX11_parseArguments 11 = .ok (.iload_n 2, 1) := by decide +kernel
theorem dX11_parseArguments_12 : decode cX11_parseArguments 12 = .ok (.iconst 2, 1) := by decide +kernel
theorem dX11_parseArguments_13 : decode cX11_parseArguments 13 = .ok (.invokevirtual 214, 3) := by decide +kernel
theorem dX11_parseArguments_16 : decode cX11_parseArguments 16 = .ok (.ireturn, 1) := by decide +kernel
theorem dX11_parseArguments_17 : decode cX11_parseArguments 17 = .ok (.iload_n 1, 1) := by decide +kernel
theorem dX11_parseArguments_18 : decode cX11_parseArguments 18 = .ok (.ifCond .eq 10, 3) := by decide +kernel
theorem dX11_parseArguments_21 : decode cX11_parseArguments 21 = .ok (.aload_n 0, 1) := by decide +kernel
theorem dX11_parseArguments_22 : decode cX11_parseArguments 22 = .ok (.iload_n 2, 1) := by decide +kernel
theorem dX11_parseArguments_23 : decode cX11_parseArguments 23 = .ok (.iconst 1, 1) := by decide +kernel
theorem dX11_parseArguments_24 : decode cX11_parseArguments 24 = .ok (.invokevirtual 214, 3) := by decide +kernel
theorem dX11_parseArguments_27 : decode cX11_parseArguments 27 = .ok (.ireturn, 1) := by decide +kernel
theorem dX11_parseArguments_28 : decode cX11_parseArguments 28 = .ok (.aload_n 0, 1) := by decide +kernel
theorem dX11_parseArguments_29 : decode cX11_parseArguments 29 = .ok (.invokevirtual 171, 3) := by decide +kernel
theorem dX11_parseArguments_32 : decode cX11_parseArguments 32 = .ok (.ifCond .ne 5, 3) := by decide +kernel
theorem dX11_parseArguments_35 : decode cX11_parseArguments 35 = .ok (.iconst 0, 1) := by decide +kernel
theorem dX11_parseArguments_36 : decode cX11_parseArguments 36 = .ok (.ireturn, 1) := by decide +kernel
theorem dX11_parseArguments_37 : decode cX11_parseArguments 37 = .ok (.aload_n 0, 1) := by decide +kernel
theorem dX11_parseArguments_38 : decode cX11_parseArguments 38 = .ok (.getfield 54, 3) := by decide +kernel
theorem dX11_parseArguments_41 : decode cX11_parseArguments 41 = .ok (.iload_n 2, 1) := by decide +kernel
theorem dX11_parseArguments_42 : decode cX11_parseArguments 42 = .ok (.aload_n 0, 1) := by decide +kernel
theorem dX11_parseArguments_43 : decode cX11_parseArguments 43 = .ok (.aload_n 0, 1) := by decide +kernel
theorem dX11_parseArguments_44 : decode cX11_parseArguments 44 = .ok (.getfield 48, 3) := by decide +kernel
theorem dX11_parseArguments_47 : decode cX11_parseArguments 47 = .ok (.aload_n 0, 1) := by decide +kernel
theorem dX11_parseArguments_48 : decode cX11_parseArguments 48 = .ok (.getfield 42, 3) := by decide +kernel
theorem dX11_parseArguments_51 : decode cX11_parseArguments 51 = .ok (.aload_n 0, 1) := by decide +kernel
theorem dX11_parseArguments_52 : decode cX11_parseArguments 52 = .ok (.getfield 48, 3) := by decide +kernel
theorem dX11_parseArguments_55 : decode cX11_parseArguments 55 = .ok (.isub, 1) := by decide +kernel
theorem dX11_parseArguments_56 : decode cX11_parseArguments 56 = .ok (.invokevirtual 174, 3) := by decide +kernel
theorem dX11_parseArguments_59 : decode cX11_parseArguments 59 = .ok (.iastore, 1) := by decide +kernel
theorem dX11_parseArguments_60 : decode cX11_parseArguments 60 = .ok (.aload_n 0, 1) := by decide +kernel
theorem dX11_parseArguments_61 : decode cX11_parseArguments 61 = .ok (.getfield 54, 3) := by decide +kernel
theorem dX11_parseArguments_64 : decode cX11_parseArguments 64 = .ok (.iload_n 2, 1) := by decide +kernel
theorem dX11_parseArguments_65 : decode cX11_parseArguments 65 = .ok (.iaload, 1) := by decide +kernel
theorem dX11_parseArguments_66 : decode cX11_parseArguments 66 = .ok (.iconst (-1), 1) := by decide +kernel
theorem dX11_parseArguments_67 : decode cX11_parseArguments 67 = .ok (.if_icmp .ne 9, 3) := by decide +kernel
theorem dX11_parseArguments_70 : decode cX11_parseArguments 70 = .ok (.aload_n 0, 1) := by decide +kernel
theorem dX11_parseArguments_71 : decode cX11_parseArguments 71 = .ok (.iconst 3, 1) := by decide +kernel
theorem dX11_parseArguments_72 : decode cX11_parseArguments 72 = .ok (.invokevirtual 162, 3) := by decide +kernel
theorem dX11_parseArguments_75 : decode cX11_parseArguments 75 = .ok (.ireturn, 1) := by decide +kernel
theorem dX11_parseArguments_76 : decode cX11_parseArguments 76 = .ok (.aload_n 0, 1) := by decide +kernel
theorem dX11_parseArguments_77 : decode cX11_parseArguments 77 = .ok (.invokevirtual 159, 3) := by decide +kernel
theorem dX11_parseArguments_80 : decode cX11_parseArguments 80 = .ok (.aload_n 0, 1) := by decide +kernel
theorem dX11_parseArguments_81 : decode cX11_parseArguments 81 = .ok (.iload_n 2, 1) := by decide +kernel
theorem dX11_parseArguments_82 : decode cX11_parseArguments 82 = .ok (.iconst 1, 1) := by decide +kernel
theorem dX11_parseArguments_83 : decode cX11_parseArguments 83 = .ok (.iadd, 1) := by decide +kernel
theorem dX11_parseArguments_84 : decode cX11_parseArguments 84 = .ok (.iconst 4, 1) := by decide +kernel
theorem dX11_parseArguments_85 : decode cX11_parseArguments 85 = .ok (.invokevirtual 214, 3) := by decide +kernel
theorem dX11_parseArguments_88 : decode cX11_parseArguments 88 = .ok (.ireturn, 1) := by decide +kernel
theorem dX11_parseScript_0 : decode cX11_parseScript 0 = .ok (.iconst 0, 1) := by decide +kernel
theorem dX11_parseScript_1 : decode cX11_parseScript 1 = .ok (.istore_n 1, 1) := by decide +kernel
theorem dX11_parseScript_2 : decode cX11_parseScript 2 = .ok (.aload_n 0, 1) := by decide +kernel
theorem dX11_parseScript_3 : decode cX11_parseScript 3 = .ok (.getfield 45, 3) := by decide +kernel
theorem dX11_parseScript_6 : decode cX11_parseScript 6 = .ok (.ifCond .eq 90, 3) := by decide +kernel
theorem dX11_parseScript_9 : decode cX11_parseScript 9 = .ok (.aload_n 0, 1) := by decide +kernel
theorem dX11_parseScript_10 : decode cX11_parseScript 10 = .ok (.invokevirtual 218, 3) := by decide +kernel
theorem dX11_parseScript_13 : decode cX11_parseScript 13 = .ok (.istore_n 2, 1) := by decide +kernel
theorem dX11_parseScript_14 : decode cX11_parseScript 14 = .ok (.iload_n 2, 1) := by decide +kernel
theorem dX11_parseScript_15 : decode cX11_parseScript 15 = .ok (.iconst (-1), 1) := by decide +kernel
theorem dX11_parseScript_16 : decode cX11_parseScript 16 = .ok (.if_icmp .eq 25, 3) := by decide +kernel
theorem dX11_parseScript_19 : decode cX11_parseScript 19 = .ok (.iload_n 1, 1) := by decide +kernel
theorem dX11_parseScript_20 : decode cX11_parseScript 20 = .ok (.bipush 30, 2) := by decide +kernel
theorem dX11_parseScript_22 : decode cX11_parseScript 22 = .ok (.if_icmp .lt 11, 3) := by decide +kernel
theorem dX11_parseScript_25 : decode cX11_parseScript 25 = .ok (.aload_n 0, 1) := by decide +kernel
theorem dX11_parseScript_26 : decode cX11_parseScript 26 = .ok (.iconst 4, 1) := by decide +kernel
theorem dX11_parseScript_27 : decode cX11_parseScript 27 = .ok (.invokevirtual 162, 3) := by decide +kernel
theorem dX11_parseScript_30 : decode cX11_parseScript 30 = .ok (.ifCond .eq 7, 3) := by decide +kernel
theorem dX11_parseScript_33 : decode cX11_parseScript 33 = .ok (.iconst 1, 1) := by decide +kernel
theorem dX11_parseScript_34 : decode cX11_parseScript 34 = .ok (.goto 12, 3) := by decide +kernel
theorem dX11_parseScript_37 : decode cX11_parseScript 37 = .ok (.iconst 0, 1) := by decide +kernel
theorem dX11_parseScript_38 : decode cX11_parseScript 38 = .ok (.goto 8, 3) := by decide +kernel
theorem dX11_parseScript_41 : decode cX11_parseScript 41 = .ok (.aload_n 0, 1) := by decide +kernel
theorem dX11_parseScript_42 : decode cX11_parseScript 42 = .ok (.iconst 1, 1) := by decide +kernel
theorem dX11_parseScript_43 : decode cX11_parseScript 43 = .ok (.invokevirtual 162, 3) := by decide +kernel
theorem dX11_parseScript_46 : decode cX11_parseScript 46 = .ok (.istore_n 3, 1) := by decide +kernel
theorem dX11_parseScript_47 : decode cX11_parseScript 47 = .ok (.iload_n 3, 1) := by decide +kernel
theorem dX11_parseScript_48 : decode cX11_parseScript 48 = .ok (.ifCond .ne 5, 3) := by decide +kernel
theorem dX11_parseScript_51 : decode cX11_parseScript 51 = .ok (.iconst (-1), 1) := by decide +kernel
theorem dX11_parseScript_52 : decode cX11_parseScript 52 = .ok (.ireturn, 1) := by decide +kernel
theorem dX11_parseScript_53 : decode cX11_parseScript 53 = .ok (.aload_n 0, 1) := by decide +kernel
theorem dX11_parseScript_54 : decode cX11_parseScript 54 = .ok (.invokevirtual 159, 3) := by decide +kernel
theorem dX11_parseScript_57 : decode cX11_parseScript 57 = .ok (.aload_n 0, 1) := by decide +kernel
theorem dX11_parseScript_58 : decode cX11_parseScript 58 = .ok (.getfield 54, 3) := by decide +kernel
theorem dX11_parseScript_61 : decode cX11_parseScript 61 = .ok (.iload_n 1, 1) := by decide +kernel
theorem dX11_parseScript_62 : decode cX11_parseScript 62 = .ok (.bipush 6, 2) := by decide +kernel
theorem dX11_parseScript_64 : decode cX11_parseScript 64 = .ok (.imul, 1) := by decide +kernel
theorem dX11_parseScript_65 : decode cX11_parseScript 65 = .ok (.iload_n 2, 1) := by decide +kernel
theorem dX11_parseScript_66 : decode cX11_parseScript 66 = .ok (.iastore, 1) := by decide +kernel
theorem dX11_parseScript_67 : decode cX11_parseScript 67 = .ok (.aload_n 0, 1) := by decide +kernel
theorem dX11_parseScript_68 : decode cX11_parseScript 68 = .ok (.iload_n 2, 1) := by decide +kernel
theorem dX11_parseScript_69 : decode cX11_parseScript 69 = .ok (.iload_n 1, 1) := by decide +kernel
theorem dX11_parseScript_70 : decode cX11_parseScript 70 = .ok (.bipush 6, 2) := by decide +kernel
theorem dX11_parseScript_72 : decode cX11_parseScript 72 = .ok (.imul, 1) := by decide +kernel
theorem dX11_parseScript_73 : decode cX11_parseScript 73 = .ok (.iconst 1, 1) := by decide +kernel
theorem dX11_parseScript_74 : decode cX11_parseScript 74 = .ok (.iadd, 1) := by decide +kernel
theorem dX11_parseScript_75 : decode cX11_parseScript 75 = .ok (.invokevirtual 221, 3) := by decide +kernel
theorem dX11_parseScript_78 : decode cX11_parseScript 78 = .ok (.ifCond .eq 10, 3) := by decide +kernel
theorem dX11_parseScript_81 : decode cX11_parseScript 81 = .ok (.aload_n 0, 1) := by decide +kernel
theorem dX11_parseScript_82 : decode cX11_parseScript 82 = .ok (.invokevirtual 168, 3) := by decide +kernel
theorem dX11_parseScript_85 : decode cX11_parseScript 85 = .ok (.ifCond .ne 5, 3) := by decide +kernel
theorem dX11_parseScript_88 : decode cX11_parseScript 88 = .ok (.iconst (-1), 1) := by decide +kernel
theorem dX11_parseScript_89 : decode cX11_parseScript 89 = .ok (.ireturn, 1) := by decide +kernel
theorem dX11_parseScript_90 : decode cX11_parseScript 90 = .ok (.iinc 1 1, 3) := by decide +kernel
theorem dX11_parseScript_93 : decode cX11_parseScript 93 = .ok (.goto (-91), 3) := by decide +kernel
theorem dX11_parseScript_96 : decode cX11_parseScript 96 = .ok (.iload_n 1, 1) := by decide +kernel
theorem dX11_parseScript_97 : decode cX11_parseScript 97 = .ok (.ireturn, 1) := by decide +kernel
theorem dX11_canDo_0 : decode cX11_canDo 0 = .ok (.aload_n 0, 1) := by decide +kernel
theorem dX11_canDo_1 : decode cX11_canDo 1 = .ok (.getfield 54, 3) := by decide +kernel
theorem dX11_canDo_4 : decode cX11_canDo 4 = .ok (.iload_n 1, 1) := by decide +kernel
theorem dX11_canDo_5 : decode cX11_canDo 5 = .ok (.iconst 1, 1) := by decide +kernel
theorem dX11_canDo_6 : decode cX11_canDo 6 = .ok (.iadd, 1) := by decide +kernel
theorem dX11_canDo_7 : decode cX11_canDo 7 = .ok (.iaload, 1) := by decide +kernel
theorem dX11_canDo_8 : decode cX11_canDo 8 = .ok (.istore_n 2, 1) := by decide +kernel
theorem dX11_canDo_9 : decode cX11_canDo 9 = .ok (.aload_n 0, 1) := by decide +kernel
theorem dX11_canDo_10 : decode cX11_canDo 10 = .ok (.getfield 54, 3) := by decide +kernel
theorem dX11_canDo_13 : decode cX11_canDo 13 = .ok (.iload_n 1, 1) := by decide +kernel
theorem dX11_canDo_14 : decode cX11_canDo 14 = .ok (.iconst 2, 1) := by decide +kernel
theorem dX11_canDo_15 : decode cX11_canDo 15 = .ok (.iadd, 1) := by decide +kernel
theorem dX11_canDo_16 : decode cX11_canDo 16 = .ok (.iaload, 1) := by decide +kernel
theorem dX11_canDo_17 : decode cX11_canDo 17 = .ok (.istore_n 3, 1) := by decide +kernel
theorem dX11_canDo_18 : decode cX11_canDo 18 = .ok (.aload_n 0, 1) := by decide +kernel
theorem dX11_canDo_19 : decode cX11_canDo 19 = .ok (.getfield 54, 3) := by decide +kernel
theorem dX11_canDo_22 : decode cX11_canDo 22 = .ok (.iload_n 1, 1) := by decide +kernel
theorem dX11_canDo_23 : decode cX11_canDo 23 = .ok (.iaload, 1) := by decide +kernel
theorem dX11_canDo_24 : decode cX11_canDo 24 = .ok (.tableswitch 176 0 4 #[36, 88, 120, 131, 156], 36) := by decide +kernel
theorem dX11_canDo_60 : decode cX11_canDo 60 = .ok (.iload_n 3, 1) := by decide +kernel
theorem dX11_canDo_61 : decode cX11_canDo 61 = .ok (.aload_n 0, 1) := by decide +kernel
theorem dX11_canDo_62 : decode cX11_canDo 62 = .ok (.getfield 54, 3) := by decide +kernel
theorem dX11_canDo_65 : decode cX11_canDo 65 = .ok (.iload_n 1, 1) := by decide +kernel
theorem dX11_canDo_66 : decode cX11_canDo 66 = .ok (.iconst 3, 1) := by decide +kernel
theorem dX11_canDo_67 : decode cX11_canDo 67 = .ok (.iadd, 1) := by decide +kernel
theorem dX11_canDo_68 : decode cX11_canDo 68 = .ok (.iaload, 1) := by decide +kernel
theorem dX11_canDo_69 : decode cX11_canDo 69 = .ok (.aload_n 0, 1) := by decide +kernel
theorem dX11_canDo_70 : decode cX11_canDo 70 = .ok (.getfield 54, 3) := by decide +kernel
theorem dX11_canDo_73 : decode cX11_canDo 73 = .ok (.iload_n 1, 1) := by decide +kernel
theorem dX11_canDo_74 : decode cX11_canDo 74 = .ok (.iconst 4, 1) := by decide +kernel
theorem dX11_canDo_75 : decode cX11_canDo 75 = .ok (.iadd, 1) := by decide +kernel
theorem dX11_canDo_76 : decode cX11_canDo 76 = .ok (.iaload, 1) := by decide +kernel
theorem dX11_canDo_77 : decode cX11_canDo 77 = .ok (.aload_n 0, 1) := by decide +kernel
theorem dX11_canDo_78 : decode cX11_canDo 78 = .ok (.getfield 54, 3) := by decide +kernel
theorem dX11_canDo_81 : decode cX11_canDo 81 = .ok (.iload_n 1, 1) := by decide +kernel
theorem dX11_canDo_82 : decode cX11_canDo 82 = .ok (.iconst 5, 1) := by decide +kernel
theorem dX11_canDo_83 : decode cX11_canDo 83 = .ok (.iadd, 1) := by decide +kernel
theorem dX11_canDo_84 : decode cX11_canDo 84 = .ok (.iaload, 1) := by decide +kernel
theorem dX11_canDo_85 : decode cX11_canDo 85 = .ok (.invokestatic 224, 3) := by decide +kernel
theorem dX11_canDo_88 : decode cX11_canDo 88 = .ok (.ifCond .eq 22, 3) := by decide +kernel
theorem dX11_canDo_91 : decode cX11_canDo 91 = .ok (.aload_n 0, 1) := by decide +kernel
theorem dX11_canDo_92 : decode cX11_canDo 92 = .ok (.aload_n 0, 1) := by decide +kernel
theorem dX11_canDo_93 : decode cX11_canDo 93 = .ok (.getfield 54, 3) := by decide +kernel
theorem dX11_canDo_96 : decode cX11_canDo 96 = .ok (.iload_n 1, 1) := by decide +kernel
theorem dX11_canDo_97 : decode cX11_canDo 97 = .ok (.iconst 3, 1) := by decide +kernel
theorem dX11_canDo_98 : decode cX11_canDo 98 = .ok (.iadd, 1) := by decide +kernel
theorem dX11_canDo_99 : decode cX11_canDo 99 = .ok (.iaload, 1) := by decide +kernel
theorem dX11_canDo_100 : decode cX11_canDo 100 = .ok (.invokevirtual 228, 3) := by decide +kernel
theorem dX11_canDo_103 : decode cX11_canDo 103 = .ok (.ifCond .eq 7, 3) := by decide +kernel
theorem dX11_canDo_106 : decode cX11_canDo 106 = .ok (.iconst 1, 1) := by decide +kernel
theorem dX11_canDo_107 : decode cX11_canDo 107 = .ok (.goto 4, 3) := by decide +kernel
theorem dX11_canDo_110 : decode cX11_canDo 110 = .ok (.iconst 0, 1) := by decide +kernel
theorem dX11_canDo_111 : decode cX11_canDo 111 = .ok (.ireturn, 1) := by decide +kernel
theorem dX11_canDo_112 : decode cX11_canDo 112 = .ok (.iload_n 2, 1) := by decide +kernel
theorem dX11_canDo_113 : decode cX11_canDo 113 = .ok (.iconst 1, 1) := by decide +kernel
theorem dX11_canDo_114 : decode cX11_canDo 114 = .ok (.sipush 300, 3) := by decide +kernel
theorem dX11_canDo_117 : decode cX11_canDo 117 = .ok (.invokestatic 79, 3) := by decide +kernel
theorem dX11_canDo_120 : decode cX11_canDo 120 = .ok (.ifCond .eq 22, 3) := by decide +kernel
theorem dX11_canDo_123 : decode cX11_canDo 123 = .ok (.aload_n 0, 1) := by decide +kernel
theorem dX11_canDo_124 : decode cX11_canDo 124 = .ok (.getfield 13, 3) := by decide +kernel
theorem dX11_canDo_127 : decode cX11_canDo 127 = .ok (.bipush 9, 2) := by decide +kernel
theorem dX11_canDo_129 : decode cX11_canDo 129 = .ok (.iaload, 1) := by decide +kernel
theorem dX11_canDo_130 : decode cX11_canDo 130 = .ok (.iload_n 2, 1) := by decide +kernel
theorem dX11_canDo_131 : decode cX11_canDo 131 = .ok (.iadd, 1) := by decide +kernel
theorem dX11_canDo_132 : decode cX11_canDo 132 = .ok (.sipush 2000, 3) := by decide +kernel
theorem dX11_canDo_135 : decode cX11_canDo 135 = .ok (.if_icmp .gt 7, 3) := by decide +kernel
theorem dX11_canDo_138 : decode cX11_canDo 138 = .ok (.iconst 1, 1) := by decide +kernel
theorem dX11_canDo_139 : decode cX11_canDo 139 = .ok (.goto 4, 3) := by decide +kernel
theorem dX11_canDo_142 : decode cX11_canDo 142 = .ok (.iconst 0, 1) := by decide +kernel
theorem dX11_canDo_143 : decode cX11_canDo 143 = .ok (.ireturn, 1) := by decide +kernel
theorem dX11_canDo_144 : decode cX11_canDo 144 = .ok (.iload_n 2, 1) := by decide +kernel
theorem dX11_canDo_145 : decode cX11_canDo 145 = .ok (.iconst 4, 1) := by decide +kernel
theorem dX11_canDo_146 : decode cX11_canDo 146 = .ok (.if_icmp .gt 7, 3) := by decide +kernel
theorem dX11_canDo_149 : decode cX11_canDo 149 = .ok (.iconst 1, 1) := by decide +kernel
theorem dX11_canDo_150 : decode cX11_canDo 150 = .ok (.goto 4, 3) := by decide +kernel
theorem dX11_canDo_153 : decode cX11_canDo 153 = .ok (.iconst 0, 1) := by decide +kernel
theorem dX11_canDo_154 : decode cX11_canDo 154 = .ok (.ireturn, 1) := by decide +kernel
theorem dX11_canDo_155 : decode cX11_canDo 155 = .ok (.aload_n 0, 1) := by decide +kernel
theorem dX11_canDo_156 : decode cX11_canDo 156 = .ok (.iload_n 2, 1) := by decide +kernel
theorem dX11_canDo_157 : decode cX11_canDo 157 = .ok (.invokevirtual 231, 3) := by decide +kernel
theorem dX11_canDo_160 : decode cX11_canDo 160 = .ok (.ifCond .eq 18, 3) := by decide +kernel
theorem dX11_canDo_163 : decode cX11_canDo 163 = .ok (.iload_n 3, 1) := by decide +kernel
theorem dX11_canDo_164 : decode cX11_canDo 164 = .ok (.iconst 1, 1) := by decide +kernel
theorem dX11_canDo_165 : decode cX11_canDo 165 = .ok (.sipush 999, 3) := by decide +kernel
theorem dX11_canDo_168 : decode cX11_canDo 168 = .ok (.invokestatic 79, 3) := by decide +kernel
theorem dX11_canDo_171 : decode cX11_canDo 171 = .ok (.ifCond .eq 7, 3) := by decide +kernel
theorem dX11_canDo_174 : decode cX11_canDo 174 = .ok (.iconst 1, 1) := by decide +kernel
theorem dX11_canDo_175 : decode cX11_canDo 175 = .ok (.goto 4, 3) := by decide +kernel
theorem dX11_canDo_178 : decode cX11_canDo 178 = .ok (.iconst 0, 1) := by decide +kernel
theorem dX11_canDo_179 : decode cX11_canDo 179 = .ok (.ireturn, 1) := by decide +kernel
theorem dX11_canDo_180 : decode cX11_canDo 180 = .ok (.aload_n 0, 1) := by decide +kernel
theorem dX11_canDo_181 : decode cX11_canDo 181 = .ok (.iload_n 2, 1) := by decide +kernel
theorem dX11_canDo_182 : decode cX11_canDo 182 = .ok (.invokevirtual 231, 3) := by decide +kernel
theorem dX11_canDo_185 : decode cX11_canDo 185 = .ok (.ifCond .eq 13, 3) := by decide +kernel
theorem dX11_canDo_188 : decode cX11_canDo 188 = .ok (.iload_n 3, 1) := by decide +kernel
theorem dX11_canDo_189 : decode cX11_canDo 189 = .ok (.bipush 9, 2) := by decide +kernel
theorem dX11_canDo_191 : decode cX11_canDo 191 = .ok (.if_icmp .gt 7, 3) := by decide +kernel
theorem dX11_canDo_194 : decode cX11_canDo 194 = .ok (.iconst 1, 1) := by decide +kernel
theorem dX11_canDo_195 : decode cX11_canDo 195 = .ok (.goto 4, 3) := by decide +kernel
theorem dX11_canDo_198 : decode cX11_canDo 198 = .ok (.iconst 0, 1) := by decide +kernel
theorem dX11_canDo_199 : decode cX11_canDo 199 = .ok (.ireturn, 1) := by decide +kernel
theorem dX11_canDo_200 : decode cX11_canDo 200 = .ok (.aload_n 0, 1) := by decide +kernel
theorem dX11_canDo_201 : decode cX11_canDo 201 = .ok (.iload_n 2, 1) := by decide +kernel
theorem dX11_canDo_202 : decode cX11_canDo 202 = .ok (.invokevirtual 231, 3) := by decide +kernel
theorem dX11_canDo_205 : decode cX11_canDo 205 = .ok (.ifCond .eq 15, 3) := by decide +kernel
theorem dX11_canDo_208 : decode cX11_canDo 208 = .ok (.aload_n 0, 1) := by decide +kernel
theorem dX11_canDo_209 : decode cX11_canDo 209 = .ok (.iload_n 2, 1) := by decide +kernel
theorem dX11_canDo_210 : decode cX11_canDo 210 = .ok (.invokevirtual 105, 3) := by decide +kernel
theorem dX11_canDo_213 : decode cX11_canDo 213 = .ok (.ifCond .eq 7, 3) := by decide +kernel
theorem dX11_canDo_216 : decode cX11_canDo 216 = .ok (.iconst 1, 1) := by decide +kernel
theorem dX11_canDo_217 : decode cX11_canDo 217 = .ok (.goto 4, 3) := by decide +kernel
theorem dX11_canDo_220 : decode cX11_canDo 220 = .ok (.iconst 0, 1) := by decide +kernel
theorem dX11_canDo_221 : decode cX11_canDo 221 = .ok (.ireturn, 1) := by decide +kernel
theorem dX11_doIt_0 : decode cX11_doIt 0 = .ok (.aload_n 0, 1) := by decide +kernel
theorem dX11_doIt_1 : decode cX11_doIt 1 = .ok (.getfield 54, 3) := by decide +kernel
theorem dX11_doIt_4 : decode cX11_doIt 4 = .ok (.iload_n 1, 1) := by decide +kernel
theorem dX11_doIt_5 : decode cX11_doIt 5 = .ok (.iconst 1, 1) := by decide +kernel
theorem dX11_doIt_6 : decode cX11_doIt 6 = .ok (.iadd, 1) := by decide +kernel
theorem dX11_doIt_7 : decode cX11_doIt 7 = .ok (.iaload, 1) := by decide +kernel
theorem dX11_doIt_8 : decode cX11_doIt 8 = .ok (.istore_n 2, 1) := by decide +kernel
theorem dX11_doIt_9 : decode cX11_doIt 9 = .ok (.aload_n 0, 1) := by decide +kernel
theorem dX11_doIt_10 : decode cX11_doIt 10 = .ok (.getfield 54, 3) := by decide +kernel
theorem dX11_doIt_13 : decode cX11_doIt 13 = .ok (.iload_n 1, 1) := by decide +kernel
theorem dX11_doIt_14 : decode cX11_doIt 14 = .ok (.iconst 2, 1) := by decide +kernel
theorem dX11_doIt_15 : decode cX11_doIt 15 = .ok (.iadd, 1) := by decide +kernel
theorem dX11_doIt_16 : decode cX11_doIt 16 = .ok (.iaload, 1) := by decide +kernel
theorem dX11_doIt_17 : decode cX11_doIt 17 = .ok (.istore_n 3, 1) := by decide +kernel
theorem dX11_doIt_18 : decode cX11_doIt 18 = .ok (.aload_n 0, 1) := by decide +kernel
theorem dX11_doIt_19 : decode cX11_doIt 19 = .ok (.getfield 54, 3) := by decide +kernel
theorem dX11_doIt_22 : decode cX11_doIt 22 = .ok (.iload_n 1, 1) := by decide +kernel
theorem dX11_doIt_23 : decode cX11_doIt 23 = .ok (.iaload, 1) := by decide +kernel
theorem dX11_doIt_24 : decode cX11_doIt 24 = .ok (.tableswitch 117 0 4 #[36, 78, 87, 97, 107], 36) := by decide +kernel
theorem dX11_doIt_60 : decode cX11_doIt 60 = .ok (.aload_n 0, 1) := by decide +kernel
theorem dX11_doIt_61 : decode cX11_doIt 61 = .ok (.iload_n 2, 1) := by decide +kernel
theorem dX11_doIt_62 : decode cX11_doIt 62 = .ok (.iload_n 3, 1) := by decide +kernel
theorem dX11_doIt_63 : decode cX11_doIt 63 = .ok (.aload_n 0, 1) := by decide +kernel
theorem dX11_doIt_64 : decode cX11_doIt 64 = .ok (.getfield 13, 3) := by decide +kernel
theorem dX11_doIt_67 : decode cX11_doIt 67 = .ok (.bipush 9, 2) := by decide +kernel
theorem dX11_doIt_69 : decode cX11_doIt 69 = .ok (.iaload, 1) := by decide +kernel
theorem dX11_doIt_70 : decode cX11_doIt 70 = .ok (.aload_n 0, 1) := by decide +kernel
theorem dX11_doIt_71 : decode cX11_doIt 71 = .ok (.getfield 54, 3) := by decide +kernel
theorem dX11_doIt_74 : decode cX11_doIt 74 = .ok (.iload_n 1, 1) := by decide +kernel
theorem dX11_doIt_75 : decode cX11_doIt 75 = .ok (.iconst 3, 1) := by decide +kernel
theorem dX11_doIt_76 : decode cX11_doIt 76 = .ok (.iadd, 1) := by decide +kernel
theorem dX11_doIt_77 : decode cX11_doIt 77 = .ok (.iaload, 1) := by decide +kernel
theorem dX11_doIt_78 : decode cX11_doIt 78 = .ok (.iadd, 1) := by decide +kernel
theorem dX11_doIt_79 : decode cX11_doIt 79 = .ok (.aload_n 0, 1) := by decide +kernel
theorem dX11_doIt_80 : decode cX11_doIt 80 = .ok (.getfield 54, 3) := by decide +kernel
theorem dX11_doIt_83 : decode cX11_doIt 83 = .ok (.iload_n 1, 1) := by decide +kernel
theorem dX11_doIt_84 : decode cX11_doIt 84 = .ok (.iconst 4, 1) := by decide +kernel
theorem dX11_doIt_85 : decode cX11_doIt 85 = .ok (.iadd, 1) := by decide +kernel
theorem dX11_doIt_86 : decode cX11_doIt 86 = .ok (.iaload, 1) := by decide +kernel
theorem dX11_doIt_87 : decode cX11_doIt 87 = .ok (.aload_n 0, 1) := by decide +kernel
theorem dX11_doIt_88 : decode cX11_doIt 88 = .ok (.getfield 54, 3) := by decide +kernel
theorem dX11_doIt_91 : decode cX11_doIt 91 = .ok (.iload_n 1, 1) := by decide +kernel
theorem dX11_doIt_92 : decode cX11_doIt 92 = .ok (.iconst 5, 1) := by decide +kernel
theorem dX11_doIt_93 : decode cX11_doIt 93 = .ok (.iadd, 1) := by decide +kernel
theorem dX11_doIt_94 : decode cX11_doIt 94 = .ok (.iaload, 1) := by decide +kernel
theorem dX11_doIt_95 : decode cX11_doIt 95 = .ok (.invokevirtual 177, 3) := by decide +kernel
theorem dX11_doIt_98 : decode cX11_doIt 98 = .ok (.pop, 1) := by decide +kernel
theorem dX11_doIt_99 : decode cX11_doIt 99 = .ok (.goto 48, 3) := by decide +kernel
theorem dX11_doIt_102 : decode cX11_doIt 102 = .ok (.aload_n 0, 1) := by decide +kernel
theorem dX11_doIt_103 : decode cX11_doIt 103 = .ok (.iload_n 2, 1) := by decide +kernel
theorem dX11_doIt_104 : decode cX11_doIt 104 = .ok (.invokevirtual 234, 3) := by decide +kernel
theorem dX11_doIt_107 : decode cX11_doIt 107 = .ok (.pop, 1) := by decide +kernel
theorem dX11_doIt_108 : decode cX11_doIt 108 = .ok (.goto 39, 3) := by decide +kernel
theorem dX11_doIt_111 : decode cX11_doIt 111 = .ok (.aload_n 0, 1) := by decide +kernel
theorem dX11_doIt_112 : decode cX11_doIt 112 = .ok (.getfield 13, 3) := by decide +kernel
theorem dX11_doIt_115 : decode cX11_doIt 115 = .ok (.iconst 0, 1) := by decide +kernel
theorem dX11_doIt_116 : decode cX11_doIt 116 = .ok (.iload_n 2, 1) := by decide +kernel
theorem dX11_doIt_117 : decode cX11_doIt 117 = .ok (.iastore, 1) := by decide +kernel
theorem dX11_doIt_118 : decode cX11_doIt 118 = .ok (.goto 29, 3) := by decide +kernel
theorem dX11_doIt_121 : decode cX11_doIt 121 = .ok (.aload_n 0, 1) := by decide +kernel
theorem dX11_doIt_122 : decode cX11_doIt 122 = .ok (.iload_n 2, 1) := by decide +kernel
theorem dX11_doIt_123 : decode cX11_doIt 123 = .ok (.iconst 3, 1) := by decide +kernel
theorem dX11_doIt_124 : decode cX11_doIt 124 = .ok (.iload_n 3, 1) := by decide +kernel
theorem dX11_doIt_125 : decode cX11_doIt 125 = .ok (.invokevirtual 120, 3) := by decide +kernel
theorem dX11_doIt_128 : decode cX11_doIt 128 = .ok (.goto 19, 3) := by decide +kernel
theorem dX11_doIt_131 : decode cX11_doIt 131 = .ok (.aload_n 0, 1) := by decide +kernel
theorem dX11_doIt_132 : decode cX11_doIt 132 = .ok (.iload_n 2, 1) := by decide +kernel
theorem dX11_doIt_133 : decode cX11_doIt 133 = .ok (.iconst 4, 1) := by decide +kernel
theorem dX11_doIt_134 : decode cX11_doIt 134 = .ok (.iload_n 3, 1) := by decide +kernel
theorem dX11_doIt_135 : decode cX11_doIt 135 = .ok (.invokevirtual 120, 3) := by decide +kernel
theorem dX11_doIt_138 : decode cX11_doIt 138 = .ok (.goto 9, 3) := by decide +kernel
theorem dX11_doIt_141 : decode cX11_doIt 141 = .ok (.aload_n 0, 1) := by decide +kernel
theorem dX11_doIt_142 : decode cX11_doIt 142 = .ok (.iload_n 2, 1) := by decide +kernel
theorem dX11_doIt_143 : decode cX11_doIt 143 = .ok (.invokevirtual 237, 3) := by decide +kernel
theorem dX11_doIt_146 : decode cX11_doIt 146 = .ok (.pop, 1) := by decide +kernel
theorem dX11_doIt_147 : decode cX11_doIt 147 = .ok (.return_, 1) := by decide +kernel
theorem dX11_runScript_0 : decode cX11_runScript 0 = .ok (.aload_n 0, 1) := by decide +kernel
theorem dX11_runScript_1 : decode cX11_runScript 1 = .ok (.invokevirtual 72, 3) := by decide +kernel
theorem dX11_runScript_4 : decode cX11_runScript 4 = .ok (.aload_n 0, 1) := by decide +kernel
theorem dX11_runScript_5 : decode cX11_runScript 5 = .ok (.invokevirtual 240, 3) := by decide +kernel
theorem dX11_runScript_8 : decode cX11_runScript 8 = .ok (.istore_n 1, 1) := by decide +kernel
theorem dX11_runScript_9 : decode cX11_runScript 9 = .ok (.aload_n 0, 1) := by decide +kernel
theorem dX11_runScript_10 : decode cX11_runScript 10 = .ok (.iconst 0, 1) := by decide +kernel
theorem dX11_runScript_11 : decode cX11_runScript 11 = .ok (.putfield 27, 3) := by decide +kernel
theorem dX11_runScript_14 : decode cX11_runScript 14 = .ok (.aload_n 0, 1) := by decide +kernel
theorem dX11_runScript_15 : decode cX11_runScript 15 = .ok (.iload_n 1, 1) := by decide +kernel
theorem dX11_runScript_16 : decode cX11_runScript 16 = .ok (.iconst (-1), 1) := by decide +kernel
theorem dX11_runScript_17 : decode cX11_runScript 17 = .ok (.if_icmp .ne 7, 3) := by decide +kernel
theorem dX11_runScript_20 : decode cX11_runScript 20 = .ok (.iconst 1, 1) := by decide +kernel
theorem dX11_runScript_21 : decode cX11_runScript 21 = .ok (.goto 4, 3) := by decide +kernel
theorem dX11_runScript_24 : decode cX11_runScript 24 = .ok (.iconst 0, 1) := by decide +kernel
theorem dX11_runScript_25 : decode cX11_runScript 25 = .ok (.iconst 0, 1) := by decide +kernel
theorem dX11_runScript_26 : decode cX11_runScript 26 = .ok (.iconst 0, 1) := by decide +kernel
theorem dX11_runScript_27 : decode cX11_runScript 27 = .ok (.invokevirtual 146, 3) := by decide +kernel
theorem dX11_runScript_30 : decode cX11_runScript 30 = .ok (.ifCond .eq 5, 3) := by decide +kernel
theorem dX11_runScript_33 : decode cX11_runScript 33 = .ok (.iconst 0, 1) := by decide +kernel
theorem dX11_runScript_34 : decode cX11_runScript 34 = .ok (.ireturn, 1) := by decide +kernel
theorem dX11_runScript_35 : decode cX11_runScript 35 = .ok (.aload_n 0, 1) := by decide +kernel
theorem dX11_runScript_36 : decode cX11_runScript 36 = .ok (.iconst 0, 1) := by decide +kernel
theorem dX11_runScript_37 : decode cX11_runScript 37 = .ok (.invokevirtual 243, 3) := by decide +kernel
theorem dX11_runScript_40 : decode cX11_runScript 40 = .ok (.iconst 0, 1) := by decide +kernel
theorem dX11_runScript_41 : decode cX11_runScript 41 = .ok (.istore_n 2, 1) := by decide +kernel
theorem dX11_runScript_42 : decode cX11_runScript 42 = .ok (.iload_n 2, 1) := by decide +kernel
theorem dX11_runScript_43 : decode cX11_runScript 43 = .ok (.iload_n 1, 1) := by decide +kernel
theorem dX11_runScript_44 : decode cX11_runScript 44 = .ok (.if_icmp .ge 28, 3) := by decide +kernel
theorem dX11_runScript_47 : decode cX11_runScript 47 = .ok (.aload_n 0, 1) := by decide +kernel
theorem dX11_runScript_48 : decode cX11_runScript 48 = .ok (.iload_n 2, 1) := by decide +kernel
theorem dX11_runScript_49 : decode cX11_runScript 49 = .ok (.bipush 6, 2) := by decide +kernel
theorem dX11_runScript_51 : decode cX11_runScript 51 = .ok (.imul, 1) := by decide +kernel
theorem dX11_runScript_52 : decode cX11_runScript 52 = .ok (.invokevirtual 246, 3) := by decide +kernel
theorem dX11_runScript_55 : decode cX11_runScript 55 = .ok (.ifCond .eq 17, 3) := by decide +kernel
theorem dX11_runScript_58 : decode cX11_runScript 58 = .ok (.aload_n 0, 1) := by decide +kernel
theorem dX11_runScript_59 : decode cX11_runScript 59 = .ok (.iload_n 2, 1) := by decide +kernel
theorem dX11_runScript_60 : decode cX11_runScript 60 = .ok (.bipush 6, 2) := by decide +kernel
theorem dX11_runScript_62 : decode cX11_runScript 62 = .ok (.imul, 1) := by decide +kernel
theorem dX11_runScript_63 : decode cX11_runScript 63 = .ok (.invokevirtual 249, 3) := by decide +kernel
theorem dX11_runScript_66 : decode cX11_runScript 66 = .ok (.iinc 2 1, 3) := by decide +kernel
theorem dX11_runScript_69 : decode cX11_runScript 69 = .ok (.goto (-27), 3) := by decide +kernel
theorem dX11_runScript_72 : decode cX11_runScript 72 = .ok (.iload_n 2, 1) := by decide +kernel
theorem dX11_runScript_73 : decode cX11_runScript 73 = .ok (.ireturn, 1) := by decide +kernel
theorem dX11_errorCode_0 : decode cX11_errorCode 0 = .ok (.aload_n 0, 1) := by decide +kernel
theorem dX11_errorCode_1 : decode cX11_errorCode 1 = .ok (.iconst 0, 1) := by decide +kernel
theorem dX11_errorCode_2 : decode cX11_errorCode 2 = .ok (.putfield 1, 3) := by decide +kernel
theorem dX11_errorCode_5 : decode cX11_errorCode 5 = .ok (.aload_n 0, 1) := by decide +kernel
theorem dX11_errorCode_6 : decode cX11_errorCode 6 = .ok (.getfield 30, 3) := by decide +kernel
theorem dX11_errorCode_9 : decode cX11_errorCode 9 = .ok (.ireturn, 1) := by decide +kernel
theorem dX11_errorPosition_0 : decode cX11_errorPosition 0 = .ok (.aload_n 0, 1) := by decide +kernel
theorem dX11_errorPosition_1 : decode cX11_errorPosition 1 = .ok (.iconst 0, 1) := by decide +kernel
theorem dX11_errorPosition_2 : decode cX11_errorPosition 2 = .ok (.putfield 1, 3) := by decide +kernel
theorem dX11_errorPosition_5 : decode cX11_errorPosition 5 = .ok (.aload_n 0, 1) := by decide +kernel
theorem dX11_errorPosition_6 : decode cX11_errorPosition 6 = .ok (.getfield 33, 3) := by decide +kernel
theorem dX11_errorPosition_9 : decode cX11_errorPosition 9 = .ok (.ireturn, 1) := by decide +kernel
theorem dX11_plain_0 : decode cX11_plain 0 = .ok (.aload_n 0, 1) := by decide +kernel
theorem dX11_plain_1 : decode cX11_plain 1 = .ok (.iconst 0, 1) := by decide +kernel
theorem dX11_plain_2 : decode cX11_plain 2 = .ok (.putfield 1, 3) := by decide +kernel
theorem dX11_plain_5 : decode cX11_plain 5 = .ok (.iload_n 1, 1) := by decide +kernel
theorem dX11_plain_6 : decode cX11_plain 6 = .ok (.ireturn, 1) := by decide +kernel
theorem dX11_clerkCount_0 : decode cX11_clerkCount 0 = .ok (.aload_n 0, 1) := by decide +kernel
theorem dX11_clerkCount_1 : decode cX11_clerkCount 1 = .ok (.aload_n 0, 1) := by decide +kernel
theorem dX11_clerkCount_2 : decode cX11_clerkCount 2 = .ok (.getfield 13, 3) := by decide +kernel
theorem dX11_clerkCount_5 : decode cX11_clerkCount 5 = .ok (.bipush 7, 2) := by decide +kernel
theorem dX11_clerkCount_7 : decode cX11_clerkCount 7 = .ok (.iaload, 1) := by decide +kernel
theorem dX11_clerkCount_8 : decode cX11_clerkCount 8 = .ok (.invokevirtual 252, 3) := by decide +kernel
theorem dX11_clerkCount_11 : decode cX11_clerkCount 11 = .ok (.ireturn, 1) := by decide +kernel
theorem dX11_letterCount_0 : decode cX11_letterCount 0 = .ok (.aload_n 0, 1) := by decide +kernel
theorem dX11_letterCount_1 : decode cX11_letterCount 1 = .ok (.aload_n 0, 1) := by decide +kernel
theorem dX11_letterCount_2 : decode cX11_letterCount 2 = .ok (.getfield 13, 3) := by decide +kernel
theorem dX11_letterCount_5 : decode cX11_letterCount 5 = .ok (.bipush 8, 2) := by decide +kernel
theorem dX11_letterCount_7 : decode cX11_letterCount 7 = .ok (.iaload, 1) := by decide +kernel
theorem dX11_letterCount_8 : decode cX11_letterCount 8 = .ok (.invokevirtual 252, 3) := by decide +kernel
theorem dX11_letterCount_11 : decode cX11_letterCount 11 = .ok (.ireturn, 1) := by decide +kernel
theorem dX11_minute_0 : decode cX11_minute 0 = .ok (.aload_n 0, 1) := by decide +kernel
theorem dX11_minute_1 : decode cX11_minute 1 = .ok (.aload_n 0, 1) := by decide +kernel
theorem dX11_minute_2 : decode cX11_minute 2 = .ok (.getfield 13, 3) := by decide +kernel
theorem dX11_minute_5 : decode cX11_minute 5 = .ok (.bipush 9, 2) := by decide +kernel
theorem dX11_minute_7 : decode cX11_minute 7 = .ok (.iaload, 1) := by decide +kernel
theorem dX11_minute_8 : decode cX11_minute 8 = .ok (.invokevirtual 252, 3) := by decide +kernel
theorem dX11_minute_11 : decode cX11_minute 11 = .ok (.ireturn, 1) := by decide +kernel
theorem dX11_policy_0 : decode cX11_policy 0 = .ok (.aload_n 0, 1) := by decide +kernel
theorem dX11_policy_1 : decode cX11_policy 1 = .ok (.aload_n 0, 1) := by decide +kernel
theorem dX11_policy_2 : decode cX11_policy 2 = .ok (.getfield 13, 3) := by decide +kernel
theorem dX11_policy_5 : decode cX11_policy 5 = .ok (.iconst 0, 1) := by decide +kernel
theorem dX11_policy_6 : decode cX11_policy 6 = .ok (.iaload, 1) := by decide +kernel
theorem dX11_policy_7 : decode cX11_policy 7 = .ok (.invokevirtual 252, 3) := by decide +kernel
theorem dX11_policy_10 : decode cX11_policy 10 = .ok (.ireturn, 1) := by decide +kernel
theorem dX11_holder_0 : decode cX11_holder 0 = .ok (.aload_n 0, 1) := by decide +kernel
theorem dX11_holder_1 : decode cX11_holder 1 = .ok (.aload_n 0, 1) := by decide +kernel
theorem dX11_holder_2 : decode cX11_holder 2 = .ok (.getfield 13, 3) := by decide +kernel
theorem dX11_holder_5 : decode cX11_holder 5 = .ok (.bipush 10, 2) := by decide +kernel
theorem dX11_holder_7 : decode cX11_holder 7 = .ok (.iaload, 1) := by decide +kernel
theorem dX11_holder_8 : decode cX11_holder 8 = .ok (.invokevirtual 252, 3) := by decide +kernel
theorem dX11_holder_11 : decode cX11_holder 11 = .ok (.ireturn, 1) := by decide +kernel
theorem dX11_currentLetter_0 : decode cX11_currentLetter 0 = .ok (.aload_n 0, 1) := by decide +kernel
theorem dX11_currentLetter_1 : decode cX11_currentLetter 1 = .ok (.aload_n 0, 1) := by decide +kernel
theorem dX11_currentLetter_2 : decode cX11_currentLetter 2 = .ok (.invokevirtual 111, 3) := by decide +kernel
theorem dX11_currentLetter_5 : decode cX11_currentLetter 5 = .ok (.invokevirtual 252, 3) := by decide +kernel
theorem dX11_currentLetter_8 : decode cX11_currentLetter 8 = .ok (.ireturn, 1) := by decide +kernel
theorem dX11_lastLetter_0 : decode cX11_lastLetter 0 = .ok (.aload_n 0, 1) := by decide +kernel
theorem dX11_lastLetter_1 : decode cX11_lastLetter 1 = .ok (.aload_n 0, 1) := by decide +kernel
theorem dX11_lastLetter_2 : decode cX11_lastLetter 2 = .ok (.getfield 13, 3) := by decide +kernel
theorem dX11_lastLetter_5 : decode cX11_lastLetter 5 = .ok (.bipush 11, 2) := by decide +kernel
theorem dX11_lastLetter_7 : decode cX11_lastLetter 7 = .ok (.iaload, 1) := by decide +kernel
theorem dX11_lastLetter_8 : decode cX11_lastLetter 8 = .ok (.invokevirtual 252, 3) := by decide +kernel
theorem dX11_lastLetter_11 : decode cX11_lastLetter 11 = .ok (.ireturn, 1) := by decide +kernel
theorem dX11_runLength_0 : decode cX11_runLength 0 = .ok (.aload_n 0, 1) := by decide +kernel
theorem dX11_runLength_1 : decode cX11_runLength 1 = .ok (.aload_n 0, 1) := by decide +kernel
theorem dX11_runLength_2 : decode cX11_runLength 2 = .ok (.getfield 13, 3) := by decide +kernel
theorem dX11_runLength_5 : decode cX11_runLength 5 = .ok (.bipush 12, 2) := by decide +kernel
theorem dX11_runLength_7 : decode cX11_runLength 7 = .ok (.iaload, 1) := by decide +kernel
theorem dX11_runLength_8 : decode cX11_runLength 8 = .ok (.invokevirtual 252, 3) := by decide +kernel
theorem dX11_runLength_11 : decode cX11_runLength 11 = .ok (.ireturn, 1) := by decide +kernel
theorem dX11_ink_0 : decode cX11_ink 0 = .ok (.aload_n 0, 1) := by decide +kernel
theorem dX11_ink_1 : decode cX11_ink 1 = .ok (.aload_n 0, 1) := by decide +kernel
theorem dX11_ink_2 : decode cX11_ink 2 = .ok (.getfield 13, 3) := by decide +kernel
theorem dX11_ink_5 : decode cX11_ink 5 = .ok (.bipush 13, 2) := by decide +kernel
theorem dX11_ink_7 : decode cX11_ink 7 = .ok (.iaload, 1) := by decide +kernel
theorem dX11_ink_8 : decode cX11_ink 8 = .ok (.invokevirtual 252, 3) := by decide +kernel
theorem dX11_ink_11 : decode cX11_ink 11 = .ok (.ireturn, 1) := by decide +kernel
theorem dX11_refillLeft_0 : decode cX11_refillLeft 0 = .ok (.aload_n 0, 1) := by decide +kernel
theorem dX11_refillLeft_1 : decode cX11_refillLeft 1 = .ok (.aload_n 0, 1) := by decide +kernel
theorem dX11_refillLeft_2 : decode cX11_refillLeft 2 = .ok (.getfield 13, 3) := by decide +kernel
theorem dX11_refillLeft_5 : decode cX11_refillLeft 5 = .ok (.bipush 14, 2) := by decide +kernel
theorem dX11_refillLeft_7 : decode cX11_refillLeft 7 = .ok (.iaload, 1) := by decide +kernel
theorem dX11_refillLeft_8 : decode cX11_refillLeft 8 = .ok (.invokevirtual 252, 3) := by decide +kernel
theorem dX11_refillLeft_11 : decode cX11_refillLeft 11 = .ok (.ireturn, 1) := by decide +kernel
theorem dX11_handOverLeft_0 : decode cX11_handOverLeft 0 = .ok (.aload_n 0, 1) := by decide +kernel
theorem dX11_handOverLeft_1 : decode cX11_handOverLeft 1 = .ok (.aload_n 0, 1) := by decide +kernel
theorem dX11_handOverLeft_2 : decode cX11_handOverLeft 2 = .ok (.getfield 13, 3) := by decide +kernel
theorem dX11_handOverLeft_5 : decode cX11_handOverLeft 5 = .ok (.bipush 15, 2) := by decide +kernel
theorem dX11_handOverLeft_7 : decode cX11_handOverLeft 7 = .ok (.iaload, 1) := by decide +kernel
theorem dX11_handOverLeft_8 : decode cX11_handOverLeft 8 = .ok (.invokevirtual 252, 3) := by decide +kernel
theorem dX11_handOverLeft_11 : decode cX11_handOverLeft 11 = .ok (.ireturn, 1) := by decide +kernel
theorem dX11_nameByte_0 : decode cX11_nameByte 0 = .ok (.bipush 22, 2) := by decide +kernel
theorem dX11_nameByte_2 : decode cX11_nameByte 2 = .ok (.aload_n 0, 1) := by decide +kernel
theorem dX11_nameByte_3 : decode cX11_nameByte 3 = .ok (.iload_n 1, 1) := by decide +kernel
theorem dX11_nameByte_4 : decode cX11_nameByte 4 = .ok (.invokevirtual 255, 3) := by decide +kernel
theorem dX11_nameByte_7 : decode cX11_nameByte 7 = .ok (.ifCond .eq 7, 3) := by decide +kernel
theorem dX11_nameByte_10 : decode cX11_nameByte 10 = .ok (.iload_n 1, 1) := by decide +kernel
theorem dX11_nameByte_11 : decode cX11_nameByte 11 = .ok (.goto 4, 3) := by decide +kernel
theorem dX11_nameByte_14 : decode cX11_nameByte 14 = .ok (.iconst 0, 1) := by decide +kernel
theorem dX11_nameByte_15 : decode cX11_nameByte 15 = .ok (.bipush 7, 2) := by decide +kernel
theorem dX11_nameByte_17 : decode cX11_nameByte 17 = .ok (.imul, 1) := by decide +kernel
theorem dX11_nameByte_18 : decode cX11_nameByte 18 = .ok (.iadd, 1) := by decide +kernel
theorem dX11_nameByte_19 : decode cX11_nameByte 19 = .ok (.istore_n 3, 1) := by decide +kernel
theorem dX11_nameByte_20 : decode cX11_nameByte 20 = .ok (.aload_n 0, 1) := by decide +kernel
theorem dX11_nameByte_21 : decode cX11_nameByte 21 = .ok (.aload_n 0, 1) := by decide +kernel
theorem dX11_nameByte_22 : decode cX11_nameByte 22 = .ok (.iload_n 1, 1) := by decide +kernel
theorem dX11_nameByte_23 : decode cX11_nameByte 23 = .ok (.invokevirtual 255, 3) := by decide +kernel
theorem dX11_nameByte_26 : decode cX11_nameByte 26 = .ok (.ifCond .eq 19, 3) := by decide +kernel
theorem dX11_nameByte_29 : decode cX11_nameByte 29 = .ok (.iload_n 2, 1) := by decide +kernel
theorem dX11_nameByte_30 : decode cX11_nameByte 30 = .ok (.iconst 0, 1) := by decide +kernel
theorem dX11_nameByte_31 : decode cX11_nameByte 31 = .ok (.aload_n 0, 1) := by decide +kernel
theorem dX11_nameByte_32 : decode cX11_nameByte 32 = .ok (.getfield 13, 3) := by decide +kernel
theorem dX11_nameByte_35 : decode cX11_nameByte 35 = .ok (.iload_n 3, 1) := by decide +kernel
theorem dX11_nameByte_36 : decode cX11_nameByte 36 = .ok (.iaload, 1) := by decide +kernel
theorem dX11_nameByte_37 : decode cX11_nameByte 37 = .ok (.iconst 1, 1) := by decide +kernel
theorem dX11_nameByte_38 : decode cX11_nameByte 38 = .ok (.isub, 1) := by decide +kernel
theorem dX11_nameByte_39 : decode cX11_nameByte 39 = .ok (.invokestatic 79, 3) := by decide +kernel
theorem dX11_nameByte_42 : decode cX11_nameByte 42 = .ok (.ifCond .ne 7, 3) := by decide +kernel
theorem dX11_nameByte_45 : decode cX11_nameByte 45 = .ok (.iconst 1, 1) := by decide +kernel
theorem dX11_nameByte_46 : decode cX11_nameByte 46 = .ok (.goto 4, 3) := by decide +kernel
theorem dX11_nameByte_49 : decode cX11_nameByte 49 = .ok (.iconst 0, 1) := by decide +kernel
theorem dX11_nameByte_50 : decode cX11_nameByte 50 = .ok (.iconst 0, 1) := by decide +kernel
theorem dX11_nameByte_51 : decode cX11_nameByte 51 = .ok (.iconst 0, 1) := by decide +kernel
theorem dX11_nameByte_52 : decode cX11_nameByte 52 = .ok (.invokevirtual 146, 3) := by decide +kernel
theorem dX11_nameByte_55 : decode cX11_nameByte 55 = .ok (.ifCond .eq 5, 3) := by decide +kernel
theorem dX11_nameByte_58 : decode cX11_nameByte 58 = .ok (.iconst 0, 1) := by decide +kernel
theorem dX11_nameByte_59 : decode cX11_nameByte 59 = .ok (.ireturn, 1) := by decide +kernel
theorem dX11_nameByte_60 : decode cX11_nameByte 60 = .ok (.aload_n 0, 1) := by decide +kernel
theorem dX11_nameByte_61 : decode cX11_nameByte 61 = .ok (.getfield 13, 3) := by decide +kernel
theorem dX11_nameByte_64 : decode cX11_nameByte 64 = .ok (.iload_n 3, 1) := by decide +kernel
theorem dX11_nameByte_65 : decode cX11_nameByte 65 = .ok (.iconst 1, 1) := by decide +kernel
theorem dX11_nameByte_66 : decode cX11_nameByte 66 = .ok (.iadd, 1) := by decide +kernel
theorem dX11_nameByte_67 : decode cX11_nameByte 67 = .ok (.iload_n 2, 1) := by decide +kernel
theorem dX11_nameByte_68 : decode cX11_nameByte 68 = .ok (.iadd, 1) := by decide +kernel
theorem dX11_nameByte_69 : decode cX11_nameByte 69 = .ok (.iaload, 1) := by decide +kernel
theorem dX11_nameByte_70 : decode cX11_nameByte 70 = .ok (.ireturn, 1) := by decide +kernel
theorem dX11_findClerk_0 : decode cX11_findClerk 0 = .ok (.aload_n 0, 1) := by decide +kernel
theorem dX11_findClerk_1 : decode cX11_findClerk 1 = .ok (.iconst 0, 1) := by decide +kernel
theorem dX11_findClerk_2 : decode cX11_findClerk 2 = .ok (.aload_n 0, 1) := by decide +kernel
theorem dX11_findClerk_3 : decode cX11_findClerk 3 = .ok (.getfield 27, 3) := by decide +kernel
theorem dX11_findClerk_6 : decode cX11_findClerk 6 = .ok (.invokevirtual 174, 3) := by decide +kernel
theorem dX11_findClerk_9 : decode cX11_findClerk 9 = .ok (.istore_n 1, 1) := by decide +kernel
theorem dX11_findClerk_10 : decode cX11_findClerk 10 = .ok (.aload_n 0, 1) := by decide +kernel
theorem dX11_findClerk_11 : decode cX11_findClerk 11 = .ok (.iload_n 1, 1) := by decide +kernel
theorem dX11_findClerk_12 : decode cX11_findClerk 12 = .ok (.iconst (-1), 1) := by decide +kernel
theorem dX11_findClerk_13 : decode cX11_findClerk 13 = .ok (.if_icmp .ne 7, 3) := by decide +kernel
theorem dX11_findClerk_16 : decode cX11_findClerk 16 = .ok (.iconst 1, 1) := by decide +kernel
theorem dX11_findClerk_17 : decode cX11_findClerk 17 = .ok (.goto 4, 3) := by decide +kernel
theorem dX11_findClerk_20 : decode cX11_findClerk 20 = .ok (.iconst 0, 1) := by decide +kernel
theorem dX11_findClerk_21 : decode cX11_findClerk 21 = .ok (.iconst 0, 1) := by decide +kernel
theorem dX11_findClerk_22 : decode cX11_findClerk 22 = .ok (.iconst 0, 1) := by decide +kernel
theorem dX11_findClerk_23 : decode cX11_findClerk 23 = .ok (.invokevirtual 146, 3) := by decide +kernel
theorem dX11_findClerk_26 : decode cX11_findClerk 26 = .ok (.ifCond .eq 5, 3) := by decide +kernel
theorem dX11_findClerk_29 : decode cX11_findClerk 29 = .ok (.iconst 0, 1) := by decide +kernel
theorem dX11_findClerk_30 : decode cX11_findClerk 30 = .ok (.ireturn, 1) := by decide +kernel
theorem dX11_findClerk_31 : decode cX11_findClerk 31 = .ok (.iload_n 1, 1) := by decide +kernel
theorem dX11_findClerk_32 : decode cX11_findClerk 32 = .ok (.ireturn, 1) := by decide +kernel
theorem dX11_field_0 : decode cX11_field 0 = .ok (.aload_n 0, 1) := by decide +kernel
theorem dX11_field_1 : decode cX11_field 1 = .ok (.aload_n 0, 1) := by decide +kernel
theorem dX11_field_2 : decode cX11_field 2 = .ok (.iload_n 1, 1) := by decide +kernel
theorem dX11_field_3 : decode cX11_field 3 = .ok (.invokevirtual 231, 3) := by decide +kernel
theorem dX11_field_6 : decode cX11_field 6 = .ok (.ifCond .ne 7, 3) := by decide +kernel
theorem dX11_field_9 : decode cX11_field 9 = .ok (.iconst 1, 1) := by decide +kernel
theorem dX11_field_10 : decode cX11_field 10 = .ok (.goto 4, 3) := by decide +kernel
theorem dX11_field_13 : decode cX11_field 13 = .ok (.iconst 0, 1) := by decide +kernel
theorem dX11_field_14 : decode cX11_field 14 = .ok (.iconst 0, 1) := by decide +kernel
theorem dX11_field_15 : decode cX11_field 15 = .ok (.iconst 0, 1) := by decide +kernel
theorem dX11_field_16 : decode cX11_field 16 = .ok (.invokevirtual 146, 3) := by decide +kernel
theorem dX11_field_19 : decode cX11_field 19 = .ok (.ifCond .eq 5, 3) := by decide +kernel
theorem dX11_field_22 : decode cX11_field 22 = .ok (.iconst 0, 1) := by decide +kernel
theorem dX11_field_23 : decode cX11_field 23 = .ok (.ireturn, 1) := by decide +kernel
theorem dX11_field_24 : decode cX11_field 24 = .ok (.aload_n 0, 1) := by decide +kernel
theorem dX11_field_25 : decode cX11_field 25 = .ok (.iload_n 1, 1) := by decide +kernel
theorem dX11_field_26 : decode cX11_field 26 = .ok (.iload_n 2, 1) := by decide +kernel
theorem dX11_field_27 : decode cX11_field 27 = .ok (.invokevirtual 87, 3) := by decide +kernel
theorem dX11_field_30 : decode cX11_field 30 = .ok (.ireturn, 1) := by decide +kernel
theorem dX11_clerkOf_0 : decode cX11_clerkOf 0 = .ok (.aload_n 0, 1) := by decide +kernel
theorem dX11_clerkOf_1 : decode cX11_clerkOf 1 = .ok (.iload_n 1, 1) := by decide +kernel
theorem dX11_clerkOf_2 : decode cX11_clerkOf 2 = .ok (.iconst 0, 1) := by decide +kernel
theorem dX11_clerkOf_3 : decode cX11_clerkOf 3 = .ok (.invokevirtual 258, 3) := by decide +kernel
theorem dX11_clerkOf_6 : decode cX11_clerkOf 6 = .ok (.ireturn, 1) := by decide +kernel
theorem dX11_length_0 : decode cX11_length 0 = .ok (.aload_n 0, 1) := by decide +kernel
theorem dX11_length_1 : decode cX11_length 1 = .ok (.iload_n 1, 1) := by decide +kernel
theorem dX11_length_2 : decode cX11_length 2 = .ok (.iconst 1, 1) := by decide +kernel
theorem dX11_length_3 : decode cX11_length 3 = .ok (.invokevirtual 258, 3) := by decide +kernel
theorem dX11_length_6 : decode cX11_length 6 = .ok (.ireturn, 1) := by decide +kernel
theorem dX11_arrival_0 : decode cX11_arrival 0 = .ok (.aload_n 0, 1) := by decide +kernel
theorem dX11_arrival_1 : decode cX11_arrival 1 = .ok (.iload_n 1, 1) := by decide +kernel
theorem dX11_arrival_2 : decode cX11_arrival 2 = .ok (.iconst 2, 1) := by decide +kernel
theorem dX11_arrival_3 : decode cX11_arrival 3 = .ok (.invokevirtual 258, 3) := by decide +kernel
theorem dX11_arrival_6 : decode cX11_arrival 6 = .ok (.ireturn, 1) := by decide +kernel
theorem dX11_deadline_0 : decode cX11_deadline 0 = .ok (.aload_n 0, 1) := by decide +kernel
theorem dX11_deadline_1 : decode cX11_deadline 1 = .ok (.iload_n 1, 1) := by decide +kernel
theorem dX11_deadline_2 : decode cX11_deadline 2 = .ok (.iconst 3, 1) := by decide +kernel
theorem dX11_deadline_3 : decode cX11_deadline 3 = .ok (.invokevirtual 258, 3) := by decide +kernel
theorem dX11_deadline_6 : decode cX11_deadline 6 = .ok (.ireturn, 1) := by decide +kernel
theorem dX11_priority_0 : decode cX11_priority 0 = .ok (.aload_n 0, 1) := by decide +kernel
theorem dX11_priority_1 : decode cX11_priority 1 = .ok (.iload_n 1, 1) := by decide +kernel
theorem dX11_priority_2 : decode cX11_priority 2 = .ok (.iconst 4, 1) := by decide +kernel
theorem dX11_priority_3 : decode cX11_priority 3 = .ok (.invokevirtual 258, 3) := by decide +kernel
theorem dX11_priority_6 : decode cX11_priority 6 = .ok (.ireturn, 1) := by decide +kernel
theorem dX11_remaining_0 : decode cX11_remaining 0 = .ok (.aload_n 0, 1) := by decide +kernel
theorem dX11_remaining_1 : decode cX11_remaining 1 = .ok (.iload_n 1, 1) := by decide +kernel
theorem dX11_remaining_2 : decode cX11_remaining 2 = .ok (.iconst 5, 1) := by decide +kernel
theorem dX11_remaining_3 : decode cX11_remaining 3 = .ok (.invokevirtual 258, 3) := by decide +kernel
theorem dX11_remaining_6 : decode cX11_remaining 6 = .ok (.ireturn, 1) := by decide +kernel
theorem dX11_finishMinute_0 : decode cX11_finishMinute 0 = .ok (.aload_n 0, 1) := by decide +kernel
theorem dX11_finishMinute_1 : decode cX11_finishMinute 1 = .ok (.iload_n 1, 1) := by decide +kernel
theorem dX11_finishMinute_2 : decode cX11_finishMinute 2 = .ok (.bipush 6, 2) := by decide +kernel
theorem dX11_finishMinute_4 : decode cX11_finishMinute 4 = .ok (.invokevirtual 258, 3) := by decide +kernel
theorem dX11_finishMinute_7 : decode cX11_finishMinute 7 = .ok (.ireturn, 1) := by decide +kernel
theorem dX11_waitingTime_0 : decode cX11_waitingTime 0 = .ok (.aload_n 0, 1) := by decide +kernel
theorem dX11_waitingTime_1 : decode cX11_waitingTime 1 = .ok (.aload_n 0, 1) := by decide +kernel
theorem dX11_waitingTime_2 : decode cX11_waitingTime 2 = .ok (.iload_n 1, 1) := by decide +kernel
theorem dX11_waitingTime_3 : decode cX11_waitingTime 3 = .ok (.invokevirtual 231, 3) := by decide +kernel
theorem dX11_waitingTime_6 : decode cX11_waitingTime 6 = .ok (.ifCond .ne 7, 3) := by decide +kernel
theorem dX11_waitingTime_9 : decode cX11_waitingTime 9 = .ok (.iconst 1, 1) := by decide +kernel
theorem dX11_waitingTime_10 : decode cX11_waitingTime 10 = .ok (.goto 4, 3) := by decide +kernel
theorem dX11_waitingTime_13 : decode cX11_waitingTime 13 = .ok (.iconst 0, 1) := by decide +kernel
theorem dX11_waitingTime_14 : decode cX11_waitingTime 14 = .ok (.iconst 0, 1) := by decide +kernel
theorem dX11_waitingTime_15 : decode cX11_waitingTime 15 = .ok (.iconst 0, 1) := by decide +kernel
theorem dX11_waitingTime_16 : decode cX11_waitingTime 16 = .ok (.invokevirtual 146, 3) := by decide +kernel
theorem dX11_waitingTime_19 : decode cX11_waitingTime 19 = .ok (.ifCond .eq 5, 3) := by decide +kernel
theorem dX11_waitingTime_22 : decode cX11_waitingTime 22 = .ok (.iconst 0, 1) := by decide +kernel
theorem dX11_waitingTime_23 : decode cX11_waitingTime 23 = .ok (.ireturn, 1) := by decide +kernel
theorem dX11_waitingTime_24 : decode cX11_waitingTime 24 = .ok (.aload_n 0, 1) := by decide +kernel
theorem dX11_waitingTime_25 : decode cX11_waitingTime 25 = .ok (.iload_n 1, 1) := by decide +kernel
theorem dX11_waitingTime_26 : decode cX11_waitingTime 26 = .ok (.invokevirtual 98, 3) := by decide +kernel
theorem dX11_waitingTime_29 : decode cX11_waitingTime 29 = .ok (.ireturn, 1) := by decide +kernel
theorem dX11_effectivePriority_0 : decode cX11_effectivePriority 0 = .ok (.aload_n 0, 1) := by decide +kernel
theorem dX11_effectivePriority_1 : decode cX11_effectivePriority 1 = .ok (.aload_n 0, 1) := by decide +kernel
theorem dX11_effectivePriority_2 : decode cX11_effectivePriority 2 = .ok (.iload_n 1, 1) := by decide +kernel
theorem dX11_effectivePriority_3 : decode cX11_effectivePriority 3 = .ok (.invokevirtual 231, 3) := by decide +kernel
theorem dX11_effectivePriority_6 : decode cX11_effectivePriority 6 = .ok (.ifCond .ne 7, 3) := by decide +kernel
theorem dX11_effectivePriority_9 : decode cX11_effectivePriority 9 = .ok (.iconst 1, 1) := by decide +kernel
theorem dX11_effectivePriority_10 : decode cX11_effectivePriority 10 = .ok (.goto 4, 3) := by decide +kernel
theorem dX11_effectivePriority_13 : decode cX11_effectivePriority 13 = .ok (.iconst 0, 1) := by decide +kernel
theorem dX11_effectivePriority_14 : decode cX11_effectivePriority 14 = .ok (.iconst 0, 1) := by decide +kernel
theorem dX11_effectivePriority_15 : decode cX11_effectivePriority 15 = .ok (.iconst 0, 1) := by decide +kernel
theorem dX11_effectivePriority_16 : decode cX11_effectivePriority 16 = .ok (.invokevirtual 146, 3) := by decide +kernel
theorem dX11_effectivePriority_19 : decode cX11_effectivePriority 19 = .ok (.ifCond .eq 5, 3) := by decide +kernel
theorem dX11_effectivePriority_22 : decode cX11_effectivePriority 22 = .ok (.iconst 0, 1) := by decide +kernel
theorem dX11_effectivePriority_23 : decode cX11_effectivePriority 23 = .ok (.ireturn, 1) := by decide +kernel
theorem dX11_effectivePriority_24 : decode cX11_effectivePriority 24 = .ok (.aload_n 0, 1) := by decide +kernel
theorem dX11_effectivePriority_25 : decode cX11_effectivePriority 25 = .ok (.iload_n 1, 1) := by decide +kernel
theorem dX11_effectivePriority_26 : decode cX11_effectivePriority 26 = .ok (.invokevirtual 102, 3) := by decide +kernel
theorem dX11_effectivePriority_29 : decode cX11_effectivePriority 29 = .ok (.ireturn, 1) := by decide +kernel
theorem dX11_isReady_0 : decode cX11_isReady 0 = .ok (.aload_n 0, 1) := by decide +kernel
theorem dX11_isReady_1 : decode cX11_isReady 1 = .ok (.aload_n 0, 1) := by decide +kernel
theorem dX11_isReady_2 : decode cX11_isReady 2 = .ok (.iload_n 1, 1) := by decide +kernel
theorem dX11_isReady_3 : decode cX11_isReady 3 = .ok (.invokevirtual 231, 3) := by decide +kernel
theorem dX11_isReady_6 : decode cX11_isReady 6 = .ok (.ifCond .ne 7, 3) := by decide +kernel
theorem dX11_isReady_9 : decode cX11_isReady 9 = .ok (.iconst 1, 1) := by decide +kernel
theorem dX11_isReady_10 : decode cX11_isReady 10 = .ok (.goto 4, 3) := by decide +kernel
theorem dX11_isReady_13 : decode cX11_isReady 13 = .ok (.iconst 0, 1) := by decide +kernel
theorem dX11_isReady_14 : decode cX11_isReady 14 = .ok (.iconst 0, 1) := by decide +kernel
theorem dX11_isReady_15 : decode cX11_isReady 15 = .ok (.iconst 0, 1) := by decide +kernel
theorem dX11_isReady_16 : decode cX11_isReady 16 = .ok (.invokevirtual 146, 3) := by decide +kernel
theorem dX11_isReady_19 : decode cX11_isReady 19 = .ok (.ifCond .eq 5, 3) := by decide +kernel
theorem dX11_isReady_22 : decode cX11_isReady 22 = .ok (.iconst 0, 1) := by decide +kernel
theorem dX11_isReady_23 : decode cX11_isReady 23 = .ok (.ireturn, 1) := by decide +kernel
theorem dX11_isReady_24 : decode cX11_isReady 24 = .ok (.aload_n 0, 1) := by decide +kernel
theorem dX11_isReady_25 : decode cX11_isReady 25 = .ok (.iload_n 1, 1) := by decide +kernel
theorem dX11_isReady_26 : decode cX11_isReady 26 = .ok (.invokevirtual 105, 3) := by decide +kernel
theorem dX11_isReady_29 : decode cX11_isReady 29 = .ok (.ireturn, 1) := by decide +kernel
theorem dX11_readyCount_0 : decode cX11_readyCount 0 = .ok (.aload_n 0, 1) := by decide +kernel
theorem dX11_readyCount_1 : decode cX11_readyCount 1 = .ok (.iconst 0, 1) := by decide +kernel
theorem dX11_readyCount_2 : decode cX11_readyCount 2 = .ok (.putfield 1, 3) := by decide +kernel
theorem dX11_readyCount_5 : decode cX11_readyCount 5 = .ok (.iconst 0, 1) := by decide +kernel
theorem dX11_readyCount_6 : decode cX11_readyCount 6 = .ok (.istore_n 1, 1) := by decide +kernel
theorem dX11_readyCount_7 : decode cX11_readyCount 7 = .ok (.iconst 0, 1) := by decide +kernel
theorem dX11_readyCount_8 : decode cX11_readyCount 8 = .ok (.istore_n 2, 1) := by decide +kernel
theorem dX11_readyCount_9 : decode cX11_readyCount 9 = .ok (.iload_n 2, 1) := by decide +kernel
theorem dX11_readyCount_10 : decode cX11_readyCount 10 = .ok (.aload_n 0, 1) := by decide +kernel
theorem dX11_readyCount_11 : decode cX11_readyCount 11 = .ok (.getfield 13, 3) := by decide +kernel
theorem dX11_readyCount_14 : decode cX11_readyCount 14 = .ok (.bipush 8, 2) := by decide +kernel
theorem dX11_readyCount_16 : decode cX11_readyCount 16 = .ok (.iaload, 1) := by decide +kernel
theorem dX11_readyCount_17 : decode cX11_readyCount 17 = .ok (.if_icmp .ge 25, 3) := by decide +kernel
theorem dX11_readyCount_20 : decode cX11_readyCount 20 = .ok (.iload_n 1, 1) := by decide +kernel
theorem dX11_readyCount_21 : decode cX11_readyCount 21 = .ok (.aload_n 0, 1) := by decide +kernel
theorem dX11_readyCount_22 : decode cX11_readyCount 22 = .ok (.iload_n 2, 1) := by decide +kernel
theorem dX11_readyCount_23 : decode cX11_readyCount 23 = .ok (.invokevirtual 105, 3) := by decide +kernel
theorem dX11_readyCount_26 : decode cX11_readyCount 26 = .ok (.ifCond .eq 7, 3) := by decide +kernel
theorem dX11_readyCount_29 : decode cX11_readyCount 29 = .ok (.iconst 1, 1) := by decide +kernel
theorem dX11_readyCount_30 : decode cX11_readyCount 30 = .ok (.goto 4, 3) := by decide +kernel
theorem dX11_readyCount_33 : decode cX11_readyCount 33 = .ok (.iconst 0, 1) := by decide +kernel
theorem dX11_readyCount_34 : decode cX11_readyCount 34 = .ok (.iadd, 1) := by decide +kernel
theorem dX11_readyCount_35 : decode cX11_readyCount 35 = .ok (.istore_n 1, 1) := by decide +kernel
theorem dX11_readyCount_36 : decode cX11_readyCount 36 = .ok (.iinc 2 1, 3) := by decide +kernel
theorem dX11_readyCount_39 : decode cX11_readyCount 39 = .ok (.goto (-30), 3) := by decide +kernel
theorem dX11_readyCount_42 : decode cX11_readyCount 42 = .ok (.iload_n 1, 1) := by decide +kernel
theorem dX11_readyCount_43 : decode cX11_readyCount 43 = .ok (.ireturn, 1) := by decide +kernel
theorem dX11_selectedLetter_0 : decode cX11_selectedLetter 0 = .ok (.aload_n 0, 1) := by decide +kernel
theorem dX11_selectedLetter_1 : decode cX11_selectedLetter 1 = .ok (.aload_n 0, 1) := by decide +kernel
theorem dX11_selectedLetter_2 : decode cX11_selectedLetter 2 = .ok (.aload_n 0, 1) := by decide +kernel
theorem dX11_selectedLetter_3 : decode cX11_selectedLetter 3 = .ok (.getfield 13, 3) := by decide +kernel
theorem dX11_selectedLetter_6 : decode cX11_selectedLetter 6 = .ok (.iconst 0, 1) := by decide +kernel
theorem dX11_selectedLetter_7 : decode cX11_selectedLetter 7 = .ok (.iaload, 1) := by decide +kernel
theorem dX11_selectedLetter_8 : decode cX11_selectedLetter 8 = .ok (.invokevirtual 131, 3) := by decide +kernel
theorem dX11_selectedLetter_11 : decode cX11_selectedLetter 11 = .ok (.invokevirtual 252, 3) := by decide +kernel
theorem dX11_selectedLetter_14 : decode cX11_selectedLetter 14 = .ok (.ireturn, 1) := by decide +kernel
theorem dX11_selectedBy_0 : decode cX11_selectedBy 0 = .ok (.aload_n 0, 1) := by decide +kernel
theorem dX11_selectedBy_1 : decode cX11_selectedBy 1 = .ok (.iload_n 1, 1) := by decide +kernel
theorem dX11_selectedBy_2 : decode cX11_selectedBy 2 = .ok (.iconst 0, 1) := by decide +kernel
theorem dX11_selectedBy_3 : decode cX11_selectedBy 3 = .ok (.iconst 4, 1) := by decide +kernel
theorem dX11_selectedBy_4 : decode cX11_selectedBy 4 = .ok (.invokestatic 79, 3) := by decide +kernel
theorem dX11_selectedBy_7 : decode cX11_selectedBy 7 = .ok (.ifCond .ne 7, 3) := by decide +kernel
theorem dX11_selectedBy_10 : decode cX11_selectedBy 10 = .ok (.iconst 1, 1) := by decide +kernel
theorem dX11_selectedBy_11 : decode cX11_selectedBy 11 = .ok (.goto 4, 3) := by decide +kernel
theorem dX11_selectedBy_14 : decode cX11_selectedBy 14 = .ok (.iconst 0, 1) := by decide +kernel
theorem dX11_selectedBy_15 : decode cX11_selectedBy 15 = .ok (.iconst 0, 1) := by decide +kernel
theorem dX11_selectedBy_16 : decode cX11_selectedBy 16 = .ok (.iconst 0, 1) := by decide +kernel
theorem dX11_selectedBy_17 : decode cX11_selectedBy 17 = .ok (.invokevirtual 146, 3) := by decide +kernel
theorem dX11_selectedBy_20 : decode cX11_selectedBy 20 = .ok (.ifCond .eq 5, 3) := by decide +kernel
theorem dX11_selectedBy_23 : decode cX11_selectedBy 23 = .ok (.iconst 0, 1) := by decide +kernel
theorem dX11_selectedBy_24 : decode cX11_selectedBy 24 = .ok (.ireturn, 1) := by decide +kernel
theorem dX11_selectedBy_25 : decode cX11_selectedBy 25 = .ok (.aload_n 0, 1) := by decide +kernel
theorem dX11_selectedBy_26 : decode cX11_selectedBy 26 = .ok (.iload_n 1, 1) := by decide +kernel
theorem dX11_selectedBy_27 : decode cX11_selectedBy 27 = .ok (.invokevirtual 131, 3) := by decide +kernel
theorem dX11_selectedBy_30 : decode cX11_selectedBy 30 = .ok (.ireturn, 1) := by decide +kernel
theorem dX11_openLettersOf_0 : decode cX11_openLettersOf 0 = .ok (.aload_n 0, 1) := by decide +kernel
theorem dX11_openLettersOf_1 : decode cX11_openLettersOf 1 = .ok (.aload_n 0, 1) := by decide +kernel
theorem dX11_openLettersOf_2 : decode cX11_openLettersOf 2 = .ok (.iload_n 1, 1) := by decide +kernel
theorem dX11_openLettersOf_3 : decode cX11_openLettersOf 3 = .ok (.invokevirtual 255, 3) := by decide +kernel
theorem dX11_openLettersOf_6 : decode cX11_openLettersOf 6 = .ok (.ifCond .ne 7, 3) := by decide +kernel
theorem dX11_openLettersOf_9 : decode cX11_openLettersOf 9 = .ok (.iconst 1, 1) := by decide +kernel
theorem dX11_openLettersOf_10 : decode cX11_openLettersOf 10 = .ok (.goto 4, 3) := by decide +kernel
theorem dX11_openLettersOf_13 : decode cX11_openLettersOf 13 = .ok (.iconst 0, 1) := by decide +kernel
theorem dX11_openLettersOf_14 : decode cX11_openLettersOf 14 = .ok (.iconst 0, 1) := by decide +kernel
theorem dX11_openLettersOf_15 : decode cX11_openLettersOf 15 = .ok (.iconst 0, 1) := by decide +kernel
theorem dX11_openLettersOf_16 : decode cX11_openLettersOf 16 = .ok (.invokevirtual 146, 3) := by decide +kernel
theorem dX11_openLettersOf_19 : decode cX11_openLettersOf 19 = .ok (.ifCond .eq 5, 3) := by decide +kernel
theorem dX11_openLettersOf_22 : decode cX11_openLettersOf 22 = .ok (.iconst 0, 1) := by decide +kernel
theorem dX11_openLettersOf_23 : decode cX11_openLettersOf 23 = .ok (.ireturn, 1) := by decide +kernel
theorem dX11_openLettersOf_24 : decode cX11_openLettersOf 24 = .ok (.iconst 0, 1) := by decide +kernel
theorem dX11_openLettersOf_25 : decode cX11_openLettersOf 25 = .ok (.istore_n 2, 1) := by decide +kernel
theorem dX11_openLettersOf_26 : decode cX11_openLettersOf 26 = .ok (.iconst 0, 1) := by decide +kernel
theorem dX11_openLettersOf_27 : decode cX11_openLettersOf 27 = .ok (.istore_n 3, 1) := by decide +kernel
theorem dX11_openLettersOf_28 : decode cX11_openLettersOf 28 = .ok (.iload_n 3, 1) := by decide +kernel
theorem dX11_openLettersOf_29 : decode cX11_openLettersOf 29 = .ok (.aload_n 0, 1) := by decide +kernel
theorem dX11_openLettersOf_30 : decode cX11_openLettersOf 30 = .ok (.getfield 13, 3) := by decide +kernel
theorem dX11_openLettersOf_33 : decode cX11_openLettersOf 33 = .ok (.bipush 8, 2) := by decide +kernel
theorem dX11_openLettersOf_35 : decode cX11_openLettersOf 35 = .ok (.iaload, 1) := by decide +kernel
theorem dX11_openLettersOf_36 : decode cX11_openLettersOf 36 = .ok (.if_icmp .ge 35, 3) := by decide +kernel
theorem dX11_openLettersOf_39 : decode cX11_openLettersOf 39 = .ok (.iload_n 2, 1) := by decide +kernel
theorem dX11_openLettersOf_40 : decode cX11_openLettersOf 40 = .ok (.aload_n 0, 1) := by decide +kernel
theorem dX11_openLettersOf_41 : decode cX11_openLettersOf 41 = .ok (.iload_n 3, 1) := by decide +kernel
theorem dX11_openLettersOf_42 : decode cX11_openLettersOf 42 = .ok (.iconst 0, 1) := by decide +kernel
theorem dX11_openLettersOf_43 : decode cX11_openLettersOf 43 = .ok (.invokevirtual 87, 3) := by decide +kernel
theorem dX11_openLettersOf_46 : decode cX11_openLettersOf 46 = .ok (.iload_n 1, 1) := by decide +kernel
theorem dX11_openLettersOf_47 : decode cX11_openLettersOf 47 = .ok (.if_icmp .ne 15, 3) := by decide +kernel
theorem dX11_openLettersOf_50 : decode cX11_openLettersOf 50 = .ok (.aload_n 0, 1) := by decide +kernel
theorem dX11_openLettersOf_51 : decode cX11_openLettersOf 51 = .ok (.iload_n 3, 1) := by decide +kernel
theorem dX11_openLettersOf_52 : decode cX11_openLettersOf 52 = .ok (.invokevirtual 95, 3) := by decide +kernel
theorem dX11_openLettersOf_55 : decode cX11_openLettersOf 55 = .ok (.ifCond .ne 7, 3) := by decide +kernel
theorem dX11_openLettersOf_58 : decode cX11_openLettersOf 58 = .ok (.iconst 1, 1) := by decide +kernel
theorem dX11_openLettersOf_59 : decode cX11_openLettersOf 59 = .ok (.goto 4, 3) := by decide +kernel
theorem dX11_openLettersOf_62 : decode cX11_openLettersOf 62 = .ok (.iconst 0, 1) := by decide +kernel
theorem dX11_openLettersOf_63 : decode cX11_openLettersOf 63 = .ok (.iadd, 1) := by decide +kernel
theorem dX11_openLettersOf_64 : decode cX11_openLettersOf 64 = .ok (.istore_n 2, 1) := by decide +kernel
theorem dX11_openLettersOf_65 : decode cX11_openLettersOf 65 = .ok (.iinc 3 1, 3) := by decide +kernel
theorem dX11_openLettersOf_68 : decode cX11_openLettersOf 68 = .ok (.goto (-40), 3) := by decide +kernel
theorem dX11_openLettersOf_71 : decode cX11_openLettersOf 71 = .ok (.iload_n 2, 1) := by decide +kernel
theorem dX11_openLettersOf_72 : decode cX11_openLettersOf 72 = .ok (.ireturn, 1) := by decide +kernel
theorem dX11_work_0 : decode cX11_work 0 = .ok (.iconst 0, 1) := by decide +kernel
theorem dX11_work_1 : decode cX11_work 1 = .ok (.istore_n 2, 1) := by decide +kernel
theorem dX11_work_2 : decode cX11_work 2 = .ok (.iconst 0, 1) := by decide +kernel
theorem dX11_work_3 : decode cX11_work 3 = .ok (.istore_n 3, 1) := by decide +kernel
theorem dX11_work_4 : decode cX11_work 4 = .ok (.iload_n 3, 1) := by decide +kernel
theorem dX11_work_5 : decode cX11_work 5 = .ok (.aload_n 0, 1) := by decide +kernel
theorem dX11_work_6 : decode cX11_work 6 = .ok (.getfield 13, 3) := by decide +kernel
theorem dX11_work_9 : decode cX11_work 9 = .ok (.bipush 8, 2) := by decide +kernel
theorem dX11_work_11 : decode cX11_work 11 = .ok (.iaload, 1) := by decide +kernel
theorem dX11_work_12 : decode cX11_work 12 = .ok (.if_icmp .ge 32, 3) := by decide +kernel
theorem dX11_work_15 : decode cX11_work 15 = .ok (.iload_n 2, 1) := by decide +kernel
theorem dX11_work_16 : decode cX11_work 16 = .ok (.aload_n 0, 1) := by decide +kernel
theorem dX11_work_17 : decode cX11_work 17 = .ok (.iload_n 3, 1) := by decide +kernel
theorem dX11_work_18 : decode cX11_work 18 = .ok (.iconst 0, 1) := by decide +kernel
theorem dX11_work_19 : decode cX11_work 19 = .ok (.invokevirtual 87, 3) := by decide +kernel
theorem dX11_work_22 : decode cX11_work 22 = .ok (.iload_n 1, 1) := by decide +kernel
theorem dX11_work_23 : decode cX11_work 23 = .ok (.if_icmp .ne 12, 3) := by decide +kernel
theorem dX11_work_26 : decode cX11_work 26 = .ok (.aload_n 0, 1) := by decide +kernel
theorem dX11_work_27 : decode cX11_work 27 = .ok (.iload_n 3, 1) := by decide +kernel
theorem dX11_work_28 : decode cX11_work 28 = .ok (.iconst 5, 1) := by decide +kernel
theorem dX11_work_29 : decode cX11_work 29 = .ok (.invokevirtual 87, 3) := by decide +kernel
theorem dX11_work_32 : decode cX11_work 32 = .ok (.goto 4, 3) := by decide +kernel
theorem dX11_work_35 : decode cX11_work 35 = .ok (.iconst 0, 1) := by decide +kernel
theorem dX11_work_36 : decode cX11_work 36 = .ok (.iadd, 1) := by decide +kernel
theorem dX11_work_37 : decode cX11_work 37 = .ok (.istore_n 2, 1) := by decide +kernel
theorem dX11_work_38 : decode cX11_work 38 = .ok (.iinc 3 1, 3) := by decide +kernel
theorem dX11_work_41 : decode cX11_work 41 = .ok (.goto (-37), 3) := by decide +kernel
theorem dX11_work_44 : decode cX11_work 44 = .ok (.iload_n 2, 1) := by decide +kernel
theorem dX11_work_45 : decode cX11_work 45 = .ok (.ireturn, 1) := by decide +kernel
theorem dX11_workOf_0 : decode cX11_workOf 0 = .ok (.aload_n 0, 1) := by decide +kernel
theorem dX11_workOf_1 : decode cX11_workOf 1 = .ok (.aload_n 0, 1) := by decide +kernel
theorem dX11_workOf_2 : decode cX11_workOf 2 = .ok (.iload_n 1, 1) := by decide +kernel
theorem dX11_workOf_3 : decode cX11_workOf 3 = .ok (.invokevirtual 255, 3) := by decide +kernel
theorem dX11_workOf_6 : decode cX11_workOf 6 = .ok (.ifCond .ne 7, 3) := by decide +kernel
theorem dX11_workOf_9 : decode cX11_workOf 9 = .ok (.iconst 1, 1) := by decide +kernel
theorem dX11_workOf_10 : decode cX11_workOf 10 = .ok (.goto 4, 3) := by decide +kernel
theorem dX11_workOf_13 : decode cX11_workOf 13 = .ok (.iconst 0, 1) := by decide +kernel
theorem dX11_workOf_14 : decode cX11_workOf 14 = .ok (.iconst 0, 1) := by decide +kernel
theorem dX11_workOf_15 : decode cX11_workOf 15 = .ok (.iconst 0, 1) := by decide +kernel
theorem dX11_workOf_16 : decode cX11_workOf 16 = .ok (.invokevirtual 146, 3) := by decide +kernel
theorem dX11_workOf_19 : decode cX11_workOf 19 = .ok (.ifCond .eq 5, 3) := by decide +kernel
theorem dX11_workOf_22 : decode cX11_workOf 22 = .ok (.iconst 0, 1) := by decide +kernel
theorem dX11_workOf_23 : decode cX11_workOf 23 = .ok (.ireturn, 1) := by decide +kernel
theorem dX11_workOf_24 : decode cX11_workOf 24 = .ok (.aload_n 0, 1) := by decide +kernel
theorem dX11_workOf_25 : decode cX11_workOf 25 = .ok (.iload_n 1, 1) := by decide +kernel
theorem dX11_workOf_26 : decode cX11_workOf 26 = .ok (.invokevirtual 261, 3) := by decide +kernel
theorem dX11_workOf_29 : decode cX11_workOf 29 = .ok (.ireturn, 1) := by decide +kernel
theorem dX11_busiestClerk_0 : decode cX11_busiestClerk 0 = .ok (.aload_n 0, 1) := by decide +kernel
theorem dX11_busiestClerk_1 : decode cX11_busiestClerk 1 = .ok (.iconst 0, 1) := by decide +kernel
theorem dX11_busiestClerk_2 : decode cX11_busiestClerk 2 = .ok (.putfield 1, 3) := by decide +kernel
theorem dX11_busiestClerk_5 : decode cX11_busiestClerk 5 = .ok (.iconst 0, 1) := by decide +kernel
theorem dX11_busiestClerk_6 : decode cX11_busiestClerk 6 = .ok (.istore_n 1, 1) := by decide +kernel
theorem dX11_busiestClerk_7 : decode cX11_busiestClerk 7 = .ok (.iconst 1, 1) := by decide +kernel
theorem dX11_busiestClerk_8 : decode cX11_busiestClerk 8 = .ok (.istore_n 2, 1) := by decide +kernel
theorem dX11_busiestClerk_9 : decode cX11_busiestClerk 9 = .ok (.iload_n 2, 1) := by decide +kernel
theorem dX11_busiestClerk_10 : decode cX11_busiestClerk 10 = .ok (.aload_n 0, 1) := by decide +kernel
theorem dX11_busiestClerk_11 : decode cX11_busiestClerk 11 = .ok (.getfield 13, 3) := by decide +kernel
theorem dX11_busiestClerk_14 : decode cX11_busiestClerk 14 = .ok (.bipush 7, 2) := by decide +kernel
theorem dX11_busiestClerk_16 : decode cX11_busiestClerk 16 = .ok (.iaload, 1) := by decide +kernel
theorem dX11_busiestClerk_17 : decode cX11_busiestClerk 17 = .ok (.if_icmp .ge 24, 3) := by decide +kernel
theorem dX11_busiestClerk_20 : decode cX11_busiestClerk 20 = .ok (.aload_n 0, 1) := by decide +kernel
theorem dX11_busiestClerk_21 : decode cX11_busiestClerk 21 = .ok (.iload_n 2, 1) := by decide +kernel
theorem dX11_busiestClerk_22 : decode cX11_busiestClerk 22 = .ok (.invokevirtual 261, 3) := by decide +kernel
theorem dX11_busiestClerk_25 : decode cX11_busiestClerk 25 = .ok (.aload_n 0, 1) := by decide +kernel
theorem dX11_busiestClerk_26 : decode cX11_busiestClerk 26 = .ok (.iload_n 1, 1) := by decide +kernel
theorem dX11_busiestClerk_27 : decode cX11_busiestClerk 27 = .ok (.invokevirtual 261, 3) := by decide +kernel
theorem dX11_busiestClerk_30 : decode cX11_busiestClerk 30 = .ok (.if_icmp .le 5, 3) := by decide +kernel
theorem dX11_busiestClerk_33 : decode cX11_busiestClerk 33 = .ok (.iload_n 2, 1) := by decide +kernel
theorem dX11_busiestClerk_34 : decode cX11_busiestClerk 34 = .ok (.istore_n 1, 1) := by decide +kernel
theorem dX11_busiestClerk_35 : decode cX11_busiestClerk 35 = .ok (.iinc 2 1, 3) := by decide +kernel
theorem dX11_busiestClerk_38 : decode cX11_busiestClerk 38 = .ok (.goto (-29), 3) := by decide +kernel
theorem dX11_busiestClerk_41 : decode cX11_busiestClerk 41 = .ok (.iload_n 1, 1) := by decide +kernel
theorem dX11_busiestClerk_42 : decode cX11_busiestClerk 42 = .ok (.ireturn, 1) := by decide +kernel
theorem dX11_finishedCount_0 : decode cX11_finishedCount 0 = .ok (.aload_n 0, 1) := by decide +kernel
theorem dX11_finishedCount_1 : decode cX11_finishedCount 1 = .ok (.aload_n 0, 1) := by decide +kernel
theorem dX11_finishedCount_2 : decode cX11_finishedCount 2 = .ok (.invokevirtual 140, 3) := by decide +kernel
theorem dX11_finishedCount_5 : decode cX11_finishedCount 5 = .ok (.invokevirtual 252, 3) := by decide +kernel
theorem dX11_finishedCount_8 : decode cX11_finishedCount 8 = .ok (.ireturn, 1) := by decide +kernel
theorem dX11_lateCount_0 : decode cX11_lateCount 0 = .ok (.aload_n 0, 1) := by decide +kernel
theorem dX11_lateCount_1 : decode cX11_lateCount 1 = .ok (.aload_n 0, 1) := by decide +kernel
theorem dX11_lateCount_2 : decode cX11_lateCount 2 = .ok (.invokevirtual 264, 3) := by decide +kernel
theorem dX11_lateCount_5 : decode cX11_lateCount 5 = .ok (.invokevirtual 252, 3) := by decide +kernel
theorem dX11_lateCount_8 : decode cX11_lateCount 8 = .ok (.ireturn, 1) := by decide +kernel
theorem dX11_greatestLateness_0 : decode cX11_greatestLateness 0 = .ok (.iconst (-1), 1) := by decide +kernel
theorem dX11_greatestLateness_1 : decode cX11_greatestLateness 1 = .ok (.istore_n 1, 1) := by decide +kernel
theorem dX11_greatestLateness_2 : decode cX11_greatestLateness 2 = .ok (.iconst 0, 1) := by decide +kernel
theorem dX11_greatestLateness_3 : decode cX11_greatestLateness 3 = .ok (.istore_n 2, 1) := by decide +kernel
theorem dX11_greatestLateness_4 : decode cX11_greatestLateness 4 = .ok (.iload_n 2, 1) := by decide +kernel
theorem dX11_greatestLateness_5 : decode cX11_greatestLateness 5 = .ok (.aload_n 0, 1) := by decide +kernel
theorem dX11_greatestLateness_6 : decode cX11_greatestLateness 6 = .ok (.getfield 13, 3) := by decide +kernel
theorem dX11_greatestLateness_9 : decode cX11_greatestLateness 9 = .ok (.bipush 8, 2) := by decide +kernel
theorem dX11_greatestLateness_11 : decode cX11_greatestLateness 11 = .ok (.iaload, 1) := by decide +kernel
theorem dX11_greatestLateness_12 : decode cX11_greatestLateness 12 = .ok (.if_icmp .ge 55, 3) := by decide +kernel
theorem dX11_greatestLateness_15 : decode cX11_greatestLateness 15 = .ok (.aload_n 0, 1) := by decide +kernel
theorem dX11_greatestLateness_16 : decode cX11_greatestLateness 16 = .ok (.iload_n 2, 1) := by decide +kernel
theorem dX11_greatestLateness_17 : decode cX11_greatestLateness 17 = .ok (.invokevirtual 95, 3) := by decide +kernel
theorem dX11_greatestLateness_20 : decode cX11_greatestLateness 20 = .ok (.ifCond .eq 41, 3) := by decide +kernel
theorem dX11_greatestLateness_23 : decode cX11_greatestLateness 23 = .ok (.iload_n 1, 1) := by decide +kernel
theorem dX11_greatestLateness_24 : decode cX11_greatestLateness 24 = .ok (.iconst (-1), 1) := by decide +kernel
theorem dX11_greatestLateness_25 : decode cX11_greatestLateness 25 = .ok (.if_icmp .eq 34, 3) := by decide +kernel
theorem dX11_greatestLateness_28 : decode cX11_greatestLateness 28 = .ok (.aload_n 0, 1) := by decide +kernel
theorem dX11_greatestLateness_29 : decode cX11_greatestLateness 29 = .ok (.iload_n 2, 1) := by decide +kernel
theorem dX11_greatestLateness_30 : decode cX11_greatestLateness 30 = .ok (.bipush 6, 2) := by decide +kernel
theorem dX11_greatestLateness_32 : decode cX11_greatestLateness 32 = .ok (.invokevirtual 87, 3) := by decide +kernel
theorem dX11_greatestLateness_35 : decode cX11_greatestLateness 35 = .ok (.aload_n 0, 1) := by decide +kernel
theorem dX11_greatestLateness_36 : decode cX11_greatestLateness 36 = .ok (.iload_n 2, 1) := by decide +kernel
theorem dX11_greatestLateness_37 : decode cX11_greatestLateness 37 = .ok (.iconst 3, 1) := by decide +kernel
theorem dX11_greatestLateness_38 : decode cX11_greatestLateness 38 = .ok (.invokevirtual 87, 3) := by decide +kernel
theorem dX11_greatestLateness_41 : decode cX11_greatestLateness 41 = .ok (.isub, 1) := by decide +kernel
theorem dX11_greatestLateness_42 : decode cX11_greatestLateness 42 = .ok (.aload_n 0, 1) := by decide +kernel
theorem dX11_greatestLateness_43 : decode cX11_greatestLateness 43 = .ok (.iload_n 1, 1) := by decide +kernel
theorem dX11_greatestLateness_44 : decode cX11_greatestLateness 44 = .ok (.bipush 6, 2) := by decide +kernel
theorem dX11_greatestLateness_46 : decode cX11_greatestLateness 46 = .ok (.invokevirtual 87, 3) := by decide +kernel
theorem dX11_greatestLateness_49 : decode cX11_greatestLateness 49 = .ok (.aload_n 0, 1) := by decide +kernel
theorem dX11_greatestLateness_50 : decode cX11_greatestLateness 50 = .ok (.iload_n 1, 1) := by decide +kernel
theorem dX11_greatestLateness_51 : decode cX11_greatestLateness 51 = .ok (.iconst 3, 1) := by decide +kernel
theorem dX11_greatestLateness_52 : decode cX11_greatestLateness 52 = .ok (.invokevirtual 87, 3) := by decide +kernel
theorem dX11_greatestLateness_55 : decode cX11_greatestLateness 55 = .ok (.isub, 1) := by decide +kernel
theorem dX11_greatestLateness_56 : decode cX11_greatestLateness 56 = .ok (.if_icmp .le 5, 3) := by decide +kernel
theorem dX11_greatestLateness_59 : decode cX11_greatestLateness 59 = .ok (.iload_n 2, 1) := by decide +kernel
theorem dX11_greatestLateness_60 : decode cX11_greatestLateness 60 = .ok (.istore_n 1, 1) := by decide +kernel
theorem dX11_greatestLateness_61 : decode cX11_greatestLateness 61 = .ok (.iinc 2 1, 3) := by decide +kernel
theorem dX11_greatestLateness_64 : decode cX11_greatestLateness 64 = .ok (.goto (-60), 3) := by decide +kernel
theorem dX11_greatestLateness_67 : decode cX11_greatestLateness 67 = .ok (.aload_n 0, 1) := by decide +kernel
theorem dX11_greatestLateness_68 : decode cX11_greatestLateness 68 = .ok (.iload_n 1, 1) := by decide +kernel
theorem dX11_greatestLateness_69 : decode cX11_greatestLateness 69 = .ok (.iconst (-1), 1) := by decide +kernel
theorem dX11_greatestLateness_70 : decode cX11_greatestLateness 70 = .ok (.if_icmp .ne 7, 3) := by decide +kernel
theorem dX11_greatestLateness_73 : decode cX11_greatestLateness 73 = .ok (.iconst 1, 1) := by decide +kernel
theorem dX11_greatestLateness_74 : decode cX11_greatestLateness 74 = .ok (.goto 4, 3) := by decide +kernel
theorem dX11_greatestLateness_77 : decode cX11_greatestLateness 77 = .ok (.iconst 0, 1) := by decide +kernel
theorem dX11_greatestLateness_78 : decode cX11_greatestLateness 78 = .ok (.iconst 0, 1) := by decide +kernel
theorem dX11_greatestLateness_79 : decode cX11_greatestLateness 79 = .ok (.iconst 0, 1) := by decide +kernel
theorem dX11_greatestLateness_80 : decode cX11_greatestLateness 80 = .ok (.invokevirtual 146, 3) := by decide +kernel
theorem dX11_greatestLateness_83 : decode cX11_greatestLateness 83 = .ok (.ifCond .eq 5, 3) := by decide +kernel
theorem dX11_greatestLateness_86 : decode cX11_greatestLateness 86 = .ok (.iconst 0, 1) := by decide +kernel
theorem dX11_greatestLateness_87 : decode cX11_greatestLateness 87 = .ok (.ireturn, 1) := by decide +kernel
theorem dX11_greatestLateness_88 : decode cX11_greatestLateness 88 = .ok (.aload_n 0, 1) := by decide +kernel
theorem dX11_greatestLateness_89 : decode cX11_greatestLateness 89 = .ok (.iload_n 1, 1) := by decide +kernel
theorem dX11_greatestLateness_90 : decode cX11_greatestLateness 90 = .ok (.bipush 6, 2) := by decide +kernel
theorem dX11_greatestLateness_92 : decode cX11_greatestLateness 92 = .ok (.invokevirtual 87, 3) := by decide +kernel
theorem dX11_greatestLateness_95 : decode cX11_greatestLateness 95 = .ok (.aload_n 0, 1) := by decide +kernel
theorem dX11_greatestLateness_96 : decode cX11_greatestLateness 96 = .ok (.iload_n 1, 1) := by decide +kernel
theorem dX11_greatestLateness_97 : decode cX11_greatestLateness 97 = .ok (.iconst 3, 1) := by decide +kernel
theorem dX11_greatestLateness_98 : decode cX11_greatestLateness 98 = .ok (.invokevirtual 87, 3) := by decide +kernel
theorem dX11_greatestLateness_101 : decode cX11_greatestLateness 101 = .ok (.isub, 1) := by decide +kernel
theorem dX11_greatestLateness_102 : decode cX11_greatestLateness 102 = .ok (.ireturn, 1) := by decide +kernel
theorem dX11_blots_0 : decode cX11_blots 0 = .ok (.aload_n 0, 1) := by decide +kernel
theorem dX11_blots_1 : decode cX11_blots 1 = .ok (.aload_n 0, 1) := by decide +kernel
theorem dX11_blots_2 : decode cX11_blots 2 = .ok (.getfield 13, 3) := by decide +kernel
theorem dX11_blots_5 : decode cX11_blots 5 = .ok (.bipush 16, 2) := by decide +kernel
theorem dX11_blots_7 : decode cX11_blots 7 = .ok (.iaload, 1) := by decide +kernel
theorem dX11_blots_8 : decode cX11_blots 8 = .ok (.invokevirtual 252, 3) := by decide +kernel
theorem dX11_blots_11 : decode cX11_blots 11 = .ok (.ireturn, 1) := by decide +kernel
theorem dX11_handOvers_0 : decode cX11_handOvers 0 = .ok (.aload_n 0, 1) := by decide +kernel
theorem dX11_handOvers_1 : decode cX11_handOvers 1 = .ok (.aload_n 0, 1) := by decide +kernel
theorem dX11_handOvers_2 : decode cX11_handOvers 2 = .ok (.getfield 13, 3) := by decide +kernel
theorem dX11_handOvers_5 : decode cX11_handOvers 5 = .ok (.bipush 17, 2) := by decide +kernel
theorem dX11_handOvers_7 : decode cX11_handOvers 7 = .ok (.iaload, 1) := by decide +kernel
theorem dX11_handOvers_8 : decode cX11_handOvers 8 = .ok (.invokevirtual 252, 3) := by decide +kernel
theorem dX11_handOvers_11 : decode cX11_handOvers 11 = .ok (.ireturn, 1) := by decide +kernel
theorem dX11_writtenMinutes_0 : decode cX11_writtenMinutes 0 = .ok (.aload_n 0, 1) := by decide +kernel
theorem dX11_writtenMinutes_1 : decode cX11_writtenMinutes 1 = .ok (.aload_n 0, 1) := by decide +kernel
theorem dX11_writtenMinutes_2 : decode cX11_writtenMinutes 2 = .ok (.getfield 13, 3) := by decide +kernel
theorem dX11_writtenMinutes_5 : decode cX11_writtenMinutes 5 = .ok (.bipush 18, 2) := by decide +kernel
theorem dX11_writtenMinutes_7 : decode cX11_writtenMinutes 7 = .ok (.iaload, 1) := by decide +kernel
theorem dX11_writtenMinutes_8 : decode cX11_writtenMinutes 8 = .ok (.invokevirtual 252, 3) := by decide +kernel
theorem dX11_writtenMinutes_11 : decode cX11_writtenMinutes 11 = .ok (.ireturn, 1) := by decide +kernel
theorem dX11_idleMinutes_0 : decode cX11_idleMinutes 0 = .ok (.aload_n 0, 1) := by decide +kernel
theorem dX11_idleMinutes_1 : decode cX11_idleMinutes 1 = .ok (.aload_n 0, 1) := by decide +kernel
theorem dX11_idleMinutes_2 : decode cX11_idleMinutes 2 = .ok (.getfield 13, 3) := by decide +kernel
theorem dX11_idleMinutes_5 : decode cX11_idleMinutes 5 = .ok (.bipush 19, 2) := by decide +kernel
theorem dX11_idleMinutes_7 : decode cX11_idleMinutes 7 = .ok (.iaload, 1) := by decide +kernel
theorem dX11_idleMinutes_8 : decode cX11_idleMinutes 8 = .ok (.invokevirtual 252, 3) := by decide +kernel
theorem dX11_idleMinutes_11 : decode cX11_idleMinutes 11 = .ok (.ireturn, 1) := by decide +kernel
theorem dX11_utilization_0 : decode cX11_utilization 0 = .ok (.aload_n 0, 1) := by decide +kernel
theorem dX11_utilization_1 : decode cX11_utilization 1 = .ok (.iconst 0, 1) := by decide +kernel
theorem dX11_utilization_2 : decode cX11_utilization 2 = .ok (.putfield 1, 3) := by decide +kernel
theorem dX11_utilization_5 : decode cX11_utilization 5 = .ok (.aload_n 0, 1) := by decide +kernel
theorem dX11_utilization_6 : decode cX11_utilization 6 = .ok (.getfield 13, 3) := by decide +kernel
theorem dX11_utilization_9 : decode cX11_utilization 9 = .ok (.bipush 9, 2) := by decide +kernel
theorem dX11_utilization_11 : decode cX11_utilization 11 = .ok (.iaload, 1) := by decide +kernel
theorem dX11_utilization_12 : decode cX11_utilization 12 = .ok (.ifCond .ne 7, 3) := by decide +kernel
theorem dX11_utilization_15 : decode cX11_utilization 15 = .ok (.fconst 0, 1) := by decide +kernel
theorem dX11_utilization_16 : decode cX11_utilization 16 = .ok (.goto 20, 3) := by decide +kernel
theorem dX11_utilization_19 : decode cX11_utilization 19 = .ok (.aload_n 0, 1) := by decide +kernel
theorem dX11_utilization_20 : decode cX11_utilization 20 = .ok (.getfield 13, 3) := by decide +kernel
theorem dX11_utilization_23 : decode cX11_utilization 23 = .ok (.bipush 18, 2) := by decide +kernel
theorem dX11_utilization_25 : decode cX11_utilization 25 = .ok (.iaload, 1) := by decide +kernel
theorem dX11_utilization_26 : decode cX11_utilization 26 = .ok (.i2f, 1) := by decide +kernel
theorem dX11_utilization_27 : decode cX11_utilization 27 = .ok (.aload_n 0, 1) := by decide +kernel
theorem dX11_utilization_28 : decode cX11_utilization 28 = .ok (.getfield 13, 3) := by decide +kernel
theorem dX11_utilization_31 : decode cX11_utilization 31 = .ok (.bipush 9, 2) := by decide +kernel
theorem dX11_utilization_33 : decode cX11_utilization 33 = .ok (.iaload, 1) := by decide +kernel
theorem dX11_utilization_34 : decode cX11_utilization 34 = .ok (.i2f, 1) := by decide +kernel
theorem dX11_utilization_35 : decode cX11_utilization 35 = .ok (.fdiv, 1) := by decide +kernel
theorem dX11_utilization_36 : decode cX11_utilization 36 = .ok (.freturn, 1) := by decide +kernel
theorem dX11_meanTurnaround_0 : decode cX11_meanTurnaround 0 = .ok (.aload_n 0, 1) := by decide +kernel
theorem dX11_meanTurnaround_1 : decode cX11_meanTurnaround 1 = .ok (.iconst 0, 1) := by decide +kernel
theorem dX11_meanTurnaround_2 : decode cX11_meanTurnaround 2 = .ok (.putfield 1, 3) := by decide +kernel
theorem dX11_meanTurnaround_5 : decode cX11_meanTurnaround 5 = .ok (.iconst 0, 1) := by decide +kernel
theorem dX11_meanTurnaround_6 : decode cX11_meanTurnaround 6 = .ok (.istore_n 1, 1) := by decide +kernel
theorem dX11_meanTurnaround_7 : decode cX11_meanTurnaround 7 = .ok (.iconst 0, 1) := by decide +kernel
theorem dX11_meanTurnaround_8 : decode cX11_meanTurnaround 8 = .ok (.istore_n 2, 1) := by decide +kernel
theorem dX11_meanTurnaround_9 : decode cX11_meanTurnaround 9 = .ok (.iload_n 2, 1) := by decide +kernel
theorem dX11_meanTurnaround_10 : decode cX11_meanTurnaround 10 = .ok (.aload_n 0, 1) := by decide +kernel
theorem dX11_meanTurnaround_11 : decode cX11_meanTurnaround 11 = .ok (.getfield 13, 3) := by decide +kernel
theorem dX11_meanTurnaround_14 : decode cX11_meanTurnaround 14 = .ok (.bipush 8, 2) := by decide +kernel
theorem dX11_meanTurnaround_16 : decode cX11_meanTurnaround 16 = .ok (.iaload, 1) := by decide +kernel
theorem dX11_meanTurnaround_17 : decode cX11_meanTurnaround 17 = .ok (.if_icmp .ge 38, 3) := by decide +kernel
theorem dX11_meanTurnaround_20 : decode cX11_meanTurnaround 20 = .ok (.iload_n 1, 1) := by decide +kernel
theorem dX11_meanTurnaround_21 : decode cX11_meanTurnaround 21 = .ok (.aload_n 0, 1) := by decide +kernel
theorem dX11_meanTurnaround_22 : decode cX11_meanTurnaround 22 = .ok (.iload_n 2, 1) := by decide +kernel
theorem dX11_meanTurnaround_23 : decode cX11_meanTurnaround 23 = .ok (.invokevirtual 95, 3) := by decide +kernel
theorem dX11_meanTurnaround_26 : decode cX11_meanTurnaround 26 = .ok (.ifCond .eq 20, 3) := by decide +kernel
theorem dX11_meanTurnaround_29 : decode cX11_meanTurnaround 29 = .ok (.aload_n 0, 1) := by decide +kernel
theorem dX11_meanTurnaround_30 : decode cX11_meanTurnaround 30 = .ok (.iload_n 2, 1) := by decide +kernel
theorem dX11_meanTurnaround_31 : decode cX11_meanTurnaround 31 = .ok (.bipush 6, 2) := by decide +kernel
theorem dX11_meanTurnaround_33 : decode cX11_meanTurnaround 33 = .ok (.invokevirtual 87, 3) := by decide +kernel
theorem dX11_meanTurnaround_36 : decode cX11_meanTurnaround 36 = .ok (.aload_n 0, 1) := by decide +kernel
theorem dX11_meanTurnaround_37 : decode cX11_meanTurnaround 37 = .ok (.iload_n 2, 1) := by decide +kernel
theorem dX11_meanTurnaround_38 : decode cX11_meanTurnaround 38 = .ok (.iconst 2, 1) := by decide +kernel
theorem dX11_meanTurnaround_39 : decode cX11_meanTurnaround 39 = .ok (.invokevirtual 87, 3) := by decide +kernel
theorem dX11_meanTurnaround_42 : decode cX11_meanTurnaround 42 = .ok (.isub, 1) := by decide +kernel
theorem dX11_meanTurnaround_43 : decode cX11_meanTurnaround 43 = .ok (.goto 4, 3) := by decide +kernel
theorem dX11_meanTurnaround_46 : decode cX11_meanTurnaround 46 = .ok (.iconst 0, 1) := by decide +kernel
theorem dX11_meanTurnaround_47 : decode cX11_meanTurnaround 47 = .ok (.iadd, 1) := by decide +kernel
theorem dX11_meanTurnaround_48 : decode cX11_meanTurnaround 48 = .ok (.istore_n 1, 1) := by decide +kernel
theorem dX11_meanTurnaround_49 : decode cX11_meanTurnaround 49 = .ok (.iinc 2 1, 3) := by decide +kernel
theorem dX11_meanTurnaround_52 : decode cX11_meanTurnaround 52 = .ok (.goto (-43), 3) := by decide +kernel
theorem dX11_meanTurnaround_55 : decode cX11_meanTurnaround 55 = .ok (.aload_n 0, 1) := by decide +kernel
theorem dX11_meanTurnaround_56 : decode cX11_meanTurnaround 56 = .ok (.invokevirtual 140, 3) := by decide +kernel
theorem dX11_meanTurnaround_59 : decode cX11_meanTurnaround 59 = .ok (.istore_n 2, 1) := by decide +kernel
theorem dX11_meanTurnaround_60 : decode cX11_meanTurnaround 60 = .ok (.iload_n 2, 1) := by decide +kernel
theorem dX11_meanTurnaround_61 : decode cX11_meanTurnaround 61 = .ok (.ifCond .ne 7, 3) := by decide +kernel
theorem dX11_meanTurnaround_64 : decode cX11_meanTurnaround 64 = .ok (.dconst 0, 1) := by decide +kernel
theorem dX11_meanTurnaround_65 : decode cX11_meanTurnaround 65 = .ok (.goto 8, 3) := by decide +kernel
theorem dX11_meanTurnaround_68 : decode cX11_meanTurnaround 68 = .ok (.iload_n 1, 1) := by decide +kernel
theorem dX11_meanTurnaround_69 : decode cX11_meanTurnaround 69 = .ok (.i2d, 1) := by decide +kernel
theorem dX11_meanTurnaround_70 : decode cX11_meanTurnaround 70 = .ok (.iload_n 2, 1) := by decide +kernel
theorem dX11_meanTurnaround_71 : decode cX11_meanTurnaround 71 = .ok (.i2d, 1) := by decide +kernel
theorem dX11_meanTurnaround_72 : decode cX11_meanTurnaround 72 = .ok (.ddiv, 1) := by decide +kernel
theorem dX11_meanTurnaround_73 : decode cX11_meanTurnaround 73 = .ok (.dreturn, 1) := by decide +kernel
theorem dX11_inconsistencies_0 : decode cX11_inconsistencies 0 = .ok (.aload_n 0, 1) := by decide +kernel
theorem dX11_inconsistencies_1 : decode cX11_inconsistencies 1 = .ok (.iconst 0, 1) := by decide +kernel
theorem dX11_inconsistencies_2 : decode cX11_inconsistencies 2 = .ok (.putfield 1, 3) := by decide +kernel
theorem dX11_inconsistencies_5 : decode cX11_inconsistencies 5 = .ok (.aload_n 0, 1) := by decide +kernel
theorem dX11_inconsistencies_6 : decode cX11_inconsistencies 6 = .ok (.getfield 13, 3) := by decide +kernel
theorem dX11_inconsistencies_9 : decode cX11_inconsistencies 9 = .ok (.bipush 9, 2) := by decide +kernel
theorem dX11_inconsistencies_11 : decode cX11_inconsistencies 11 = .ok (.iaload, 1) := by decide +kernel
theorem dX11_inconsistencies_12 : decode cX11_inconsistencies 12 = .ok (.aload_n 0, 1) := by decide +kernel
theorem dX11_inconsistencies_13 : decode cX11_inconsistencies 13 = .ok (.getfield 13, 3) := by decide +kernel
theorem dX11_inconsistencies_16 : decode cX11_inconsistencies 16 = .ok (.bipush 18, 2) := by decide +kernel
theorem dX11_inconsistencies_18 : decode cX11_inconsistencies 18 = .ok (.iaload, 1) := by decide +kernel
theorem dX11_inconsistencies_19 : decode cX11_inconsistencies 19 = .ok (.isub, 1) := by decide +kernel
theorem dX11_inconsistencies_20 : decode cX11_inconsistencies 20 = .ok (.aload_n 0, 1) := by decide +kernel
theorem dX11_inconsistencies_21 : decode cX11_inconsistencies 21 = .ok (.getfield 13, 3) := by decide +kernel
theorem dX11_inconsistencies_24 : decode cX11_inconsistencies 24 = .ok (.bipush 19, 2) := by decide +kernel
theorem dX11_inconsistencies_26 : decode cX11_inconsistencies 26 = .ok (.iaload, 1) := by decide +kernel
theorem dX11_inconsistencies_27 : decode cX11_inconsistencies 27 = .ok (.isub, 1) := by decide +kernel
theorem dX11_inconsistencies_28 : decode cX11_inconsistencies 28 = .ok (.aload_n 0, 1) := by decide +kernel
theorem dX11_inconsistencies_29 : decode cX11_inconsistencies 29 = .ok (.getfield 13, 3) := by decide +kernel
theorem dX11_inconsistencies_32 : decode cX11_inconsistencies 32 = .ok (.bipush 20, 2) := by decide +kernel
theorem dX11_inconsistencies_34 : decode cX11_inconsistencies 34 = .ok (.iaload, 1) := by decide +kernel
theorem dX11_inconsistencies_35 : decode cX11_inconsistencies 35 = .ok (.isub, 1) := by decide +kernel
theorem dX11_inconsistencies_36 : decode cX11_inconsistencies 36 = .ok (.aload_n 0, 1) := by decide +kernel
theorem dX11_inconsistencies_37 : decode cX11_inconsistencies 37 = .ok (.getfield 13, 3) := by decide +kernel
theorem dX11_inconsistencies_40 : decode cX11_inconsistencies 40 = .ok (.bipush 21, 2) := by decide +kernel
theorem dX11_inconsistencies_42 : decode cX11_inconsistencies 42 = .ok (.iaload, 1) := by decide +kernel
theorem dX11_inconsistencies_43 : decode cX11_inconsistencies 43 = .ok (.isub, 1) := by decide +kernel
theorem dX11_inconsistencies_44 : decode cX11_inconsistencies 44 = .ok (.ireturn, 1) := by decide +kernel
theorem dX11_minutesToFinish_0 : decode cX11_minutesToFinish 0 = .ok (.aload_n 0, 1) := by decide +kernel
theorem dX11_minutesToFinish_1 : decode cX11_minutesToFinish 1 = .ok (.iconst 0, 1) := by decide +kernel
theorem dX11_minutesToFinish_2 : decode cX11_minutesToFinish 2 = .ok (.putfield 1, 3) := by decide +kernel
theorem dX11_minutesToFinish_5 : decode cX11_minutesToFinish 5 = .ok (.aload_n 0, 1) := by decide +kernel
theorem dX11_minutesToFinish_6 : decode cX11_minutesToFinish 6 = .ok (.iconst 0, 1) := by decide +kernel
theorem dX11_minutesToFinish_7 : decode cX11_minutesToFinish 7 = .ok (.bipush 9, 2) := by decide +kernel
theorem dX11_minutesToFinish_9 : decode cX11_minutesToFinish 9 = .ok (.invokevirtual 83, 3) := by decide +kernel
theorem dX11_minutesToFinish_12 : decode cX11_minutesToFinish 12 = .ok (.iconst 0, 1) := by decide +kernel
theorem dX11_minutesToFinish_13 : decode cX11_minutesToFinish 13 = .ok (.istore_n 1, 1) := by decide +kernel
theorem dX11_minutesToFinish_14 : decode cX11_minutesToFinish 14 = .ok (.iload_n 1, 1) := by decide +kernel
theorem dX11_minutesToFinish_15 : decode cX11_minutesToFinish 15 = .ok (.sipush 1500, 3) := by decide +kernel
theorem dX11_minutesToFinish_18 : decode cX11_minutesToFinish 18 = .ok (.if_icmp .ge 27, 3) := by decide +kernel
theorem dX11_minutesToFinish_21 : decode cX11_minutesToFinish 21 = .ok (.aload_n 0, 1) := by decide +kernel
theorem dX11_minutesToFinish_22 : decode cX11_minutesToFinish 22 = .ok (.invokevirtual 140, 3) := by decide +kernel
theorem dX11_minutesToFinish_25 : decode cX11_minutesToFinish 25 = .ok (.aload_n 0, 1) := by decide +kernel
theorem dX11_minutesToFinish_26 : decode cX11_minutesToFinish 26 = .ok (.getfield 13, 3) := by decide +kernel
theorem dX11_minutesToFinish_29 : decode cX11_minutesToFinish 29 = .ok (.bipush 8, 2) := by decide +kernel
theorem dX11_minutesToFinish_31 : decode cX11_minutesToFinish 31 = .ok (.iaload, 1) := by decide +kernel
theorem dX11_minutesToFinish_32 : decode cX11_minutesToFinish 32 = .ok (.if_icmp .ge 13, 3) := by decide +kernel
theorem dX11_minutesToFinish_35 : decode cX11_minutesToFinish 35 = .ok (.aload_n 0, 1) := by decide +kernel
theorem dX11_minutesToFinish_36 : decode cX11_minutesToFinish 36 = .ok (.invokevirtual 143, 3) := by decide +kernel
theorem dX11_minutesToFinish_39 : decode cX11_minutesToFinish 39 = .ok (.iinc 1 1, 3) := by decide +kernel
theorem dX11_minutesToFinish_42 : decode cX11_minutesToFinish 42 = .ok (.goto (-28), 3) := by decide +kernel
theorem dX11_minutesToFinish_45 : decode cX11_minutesToFinish 45 = .ok (.aload_n 0, 1) := by decide +kernel
theorem dX11_minutesToFinish_46 : decode cX11_minutesToFinish 46 = .ok (.invokevirtual 140, 3) := by decide +kernel
theorem dX11_minutesToFinish_49 : decode cX11_minutesToFinish 49 = .ok (.aload_n 0, 1) := by decide +kernel
theorem dX11_minutesToFinish_50 : decode cX11_minutesToFinish 50 = .ok (.getfield 13, 3) := by decide +kernel
theorem dX11_minutesToFinish_53 : decode cX11_minutesToFinish 53 = .ok (.bipush 8, 2) := by decide +kernel
theorem dX11_minutesToFinish_55 : decode cX11_minutesToFinish 55 = .ok (.iaload, 1) := by decide +kernel
theorem dX11_minutesToFinish_56 : decode cX11_minutesToFinish 56 = .ok (.if_icmp .ne 7, 3) := by decide +kernel
theorem dX11_minutesToFinish_59 : decode cX11_minutesToFinish 59 = .ok (.iconst 1, 1) := by decide +kernel
theorem dX11_minutesToFinish_60 : decode cX11_minutesToFinish 60 = .ok (.goto 4, 3) := by decide +kernel
theorem dX11_minutesToFinish_63 : decode cX11_minutesToFinish 63 = .ok (.iconst 0, 1) := by decide +kernel
theorem dX11_minutesToFinish_64 : decode cX11_minutesToFinish 64 = .ok (.istore_n 2, 1) := by decide +kernel
theorem dX11_minutesToFinish_65 : decode cX11_minutesToFinish 65 = .ok (.aload_n 0, 1) := by decide +kernel
theorem dX11_minutesToFinish_66 : decode cX11_minutesToFinish 66 = .ok (.bipush 9, 2) := by decide +kernel
theorem dX11_minutesToFinish_68 : decode cX11_minutesToFinish 68 = .ok (.iconst 0, 1) := by decide +kernel
theorem dX11_minutesToFinish_69 : decode cX11_minutesToFinish 69 = .ok (.invokevirtual 83, 3) := by decide +kernel
theorem dX11_minutesToFinish_72 : decode cX11_minutesToFinish 72 = .ok (.iload_n 2, 1) := by decide +kernel
theorem dX11_minutesToFinish_73 : decode cX11_minutesToFinish 73 = .ok (.ifCond .eq 7, 3) := by decide +kernel
theorem dX11_minutesToFinish_76 : decode cX11_minutesToFinish 76 = .ok (.iload_n 1, 1) := by decide +kernel
theorem dX11_minutesToFinish_77 : decode cX11_minutesToFinish 77 = .ok (.goto 4, 3) := by decide +kernel
theorem dX11_minutesToFinish_80 : decode cX11_minutesToFinish 80 = .ok (.iconst (-1), 1) := by decide +kernel
theorem dX11_minutesToFinish_81 : decode cX11_minutesToFinish 81 = .ok (.ireturn, 1) := by decide +kernel
theorem dX11_minutesToFinishLetter_0 : decode cX11_minutesToFinishLetter 0 = .ok (.aload_n 0, 1) := by decide +kernel
theorem dX11_minutesToFinishLetter_1 : decode cX11_minutesToFinishLetter 1 = .ok (.aload_n 0, 1) := by decide +kernel
theorem dX11_minutesToFinishLetter_2 : decode cX11_minutesToFinishLetter 2 = .ok (.iload_n 1, 1) := by decide +kernel
theorem dX11_minutesToFinishLetter_3 : decode cX11_minutesToFinishLetter 3 = .ok (.invokevirtual 231, 3) := by decide +kernel
theorem dX11_minutesToFinishLetter_6 : decode cX11_minutesToFinishLetter 6 = .ok (.ifCond .ne 7, 3) := by decide +kernel
theorem dX11_minutesToFinishLetter_9 : decode cX11_minutesToFinishLetter 9 = .ok (.iconst 1, 1) := by decide +kernel
theorem dX11_minutesToFinishLetter_10 : decode cX11_minutesToFinishLetter 10 = .ok (.goto 4, 3) := by decide +kernel
theorem dX11_minutesToFinishLetter_13 : decode cX11_minutesToFinishLetter 13 = .ok (.iconst 0, 1) := by decide +kernel
theorem dX11_minutesToFinishLetter_14 : decode cX11_minutesToFinishLetter 14 = .ok (.iconst 0, 1) := by decide +kernel
theorem dX11_minutesToFinishLetter_15 : decode cX11_minutesToFinishLetter 15 = .ok (.iconst 0, 1) := by decide +kernel
theorem dX11_minutesToFinishLetter_16 : decode cX11_minutesToFinishLetter 16 = .ok (.invokevirtual 146, 3) := by decide +kernel
theorem dX11_minutesToFinishLetter_19 : decode cX11_minutesToFinishLetter 19 = .ok (.ifCond .eq 5, 3) := by decide +kernel
theorem dX11_minutesToFinishLetter_22 : decode cX11_minutesToFinishLetter 22 = .ok (.iconst 0, 1) := by decide +kernel
theorem dX11_minutesToFinishLetter_23 : decode cX11_minutesToFinishLetter 23 = .ok (.ireturn, 1) := by decide +kernel
theorem dX11_minutesToFinishLetter_24 : decode cX11_minutesToFinishLetter 24 = .ok (.aload_n 0, 1) := by decide +kernel
theorem dX11_minutesToFinishLetter_25 : decode cX11_minutesToFinishLetter 25 = .ok (.iconst 0, 1) := by decide +kernel
theorem dX11_minutesToFinishLetter_26 : decode cX11_minutesToFinishLetter 26 = .ok (.bipush 9, 2) := by decide +kernel
theorem dX11_minutesToFinishLetter_28 : decode cX11_minutesToFinishLetter 28 = .ok (.invokevirtual 83, 3) := by decide +kernel
theorem dX11_minutesToFinishLetter_31 : decode cX11_minutesToFinishLetter 31 = .ok (.iconst 0, 1) := by decide +kernel
theorem dX11_minutesToFinishLetter_32 : decode cX11_minutesToFinishLetter 32 = .ok (.istore_n 2, 1) := by decide +kernel
theorem dX11_minutesToFinishLetter_33 : decode cX11_minutesToFinishLetter 33 = .ok (.iload_n 2, 1) := by decide +kernel
theorem dX11_minutesToFinishLetter_34 : decode cX11_minutesToFinishLetter 34 = .ok (.sipush 1500, 3) := by decide +kernel
theorem dX11_minutesToFinishLetter_37 : decode cX11_minutesToFinishLetter 37 = .ok (.if_icmp .ge 21, 3) := by decide +kernel
theorem dX11_minutesToFinishLetter_40 : decode cX11_minutesToFinishLetter 40 = .ok (.aload_n 0, 1) := by decide +kernel
theorem dX11_minutesToFinishLetter_41 : decode cX11_minutesToFinishLetter 41 = .ok (.iload_n 1, 1) := by decide +kernel
theorem dX11_minutesToFinishLetter_42 : decode cX11_minutesToFinishLetter 42 = .ok (.invokevirtual 95, 3) := by decide +kernel
theorem dX11_minutesToFinishLetter_45 : decode cX11_minutesToFinishLetter 45 = .ok (.ifCond .ne 13, 3) := by decide +kernel
theorem dX11_minutesToFinishLetter_48 : decode cX11_minutesToFinishLetter 48 = .ok (.aload_n 0, 1) := by decide +kernel
theorem dX11_minutesToFinishLetter_49 : decode cX11_minutesToFinishLetter 49 = .ok (.invokevirtual 143, 3) := by decide +kernel
theorem dX11_minutesToFinishLetter_52 : decode cX11_minutesToFinishLetter 52 = .ok (.iinc 2 1, 3) := by decide +kernel
theorem dX11_minutesToFinishLetter_55 : decode cX11_minutesToFinishLetter 55 = .ok (.goto (-22), 3) := by decide +kernel
theorem dX11_minutesToFinishLetter_58 : decode cX11_minutesToFinishLetter 58 = .ok (.aload_n 0, 1) := by decide +kernel
theorem dX11_minutesToFinishLetter_59 : decode cX11_minutesToFinishLetter 59 = .ok (.iload_n 1, 1) := by decide +kernel
theorem dX11_minutesToFinishLetter_60 : decode cX11_minutesToFinishLetter 60 = .ok (.invokevirtual 95, 3) := by decide +kernel
theorem dX11_minutesToFinishLetter_63 : decode cX11_minutesToFinishLetter 63 = .ok (.istore_n 3, 1) := by decide +kernel
theorem dX11_minutesToFinishLetter_64 : decode cX11_minutesToFinishLetter 64 = .ok (.aload_n 0, 1) := by decide +kernel
theorem dX11_minutesToFinishLetter_65 : decode cX11_minutesToFinishLetter 65 = .ok (.bipush 9, 2) := by decide +kernel
theorem dX11_minutesToFinishLetter_67 : decode cX11_minutesToFinishLetter 67 = .ok (.iconst 0, 1) := by decide +kernel
theorem dX11_minutesToFinishLetter_68 : decode cX11_minutesToFinishLetter 68 = .ok (.invokevirtual 83, 3) := by decide +kernel
theorem dX11_minutesToFinishLetter_71 : decode cX11_minutesToFinishLetter 71 = .ok (.iload_n 3, 1) := by decide +kernel
theorem dX11_minutesToFinishLetter_72 : decode cX11_minutesToFinishLetter 72 = .ok (.ifCond .eq 7, 3) := by decide +kernel
theorem dX11_minutesToFinishLetter_75 : decode cX11_minutesToFinishLetter 75 = .ok (.iload_n 2, 1) := by decide +kernel
theorem dX11_minutesToFinishLetter_76 : decode cX11_minutesToFinishLetter 76 = .ok (.goto 4, 3) := by decide +kernel
theorem dX11_minutesToFinishLetter_79 : decode cX11_minutesToFinishLetter 79 = .ok (.iconst (-1), 1) := by decide +kernel
theorem dX11_minutesToFinishLetter_80 : decode cX11_minutesToFinishLetter 80 = .ok (.ireturn, 1) := by decide +kernel
theorem dX11_letterWrittenIn_0 : decode cX11_letterWrittenIn 0 = .ok (.aload_n 0, 1) := by decide +kernel
theorem dX11_letterWrittenIn_1 : decode cX11_letterWrittenIn 1 = .ok (.iload_n 1, 1) := by decide +kernel
theorem dX11_letterWrittenIn_2 : decode cX11_letterWrittenIn 2 = .ok (.iconst 0, 1) := by decide +kernel
theorem dX11_letterWrittenIn_3 : decode cX11_letterWrittenIn 3 = .ok (.sipush 300, 3) := by decide +kernel
theorem dX11_letterWrittenIn_6 : decode cX11_letterWrittenIn 6 = .ok (.invokestatic 79, 3) := by decide +kernel
theorem dX11_letterWrittenIn_9 : decode cX11_letterWrittenIn 9 = .ok (.ifCond .ne 7, 3) := by decide +kernel
theorem dX11_letterWrittenIn_12 : decode cX11_letterWrittenIn 12 = .ok (.iconst 1, 1) := by decide +kernel
theorem dX11_letterWrittenIn_13 : decode cX11_letterWrittenIn 13 = .ok (.goto 4, 3) := by decide +kernel
theorem dX11_letterWrittenIn_16 : decode cX11_letterWrittenIn 16 = .ok (.iconst 0, 1) := by decide +kernel
theorem dX11_letterWrittenIn_17 : decode cX11_letterWrittenIn 17 = .ok (.iconst 0, 1) := by decide +kernel
theorem dX11_letterWrittenIn_18 : decode cX11_letterWrittenIn 18 = .ok (.iconst 0, 1) := by decide +kernel
theorem dX11_letterWrittenIn_19 : decode cX11_letterWrittenIn 19 = .ok (.invokevirtual 146, 3) := by decide +kernel
theorem dX11_letterWrittenIn_22 : decode cX11_letterWrittenIn 22 = .ok (.ifCond .eq 5, 3) := by decide +kernel
theorem dX11_letterWrittenIn_25 : decode cX11_letterWrittenIn 25 = .ok (.iconst 0, 1) := by decide +kernel
theorem dX11_letterWrittenIn_26 : decode cX11_letterWrittenIn 26 = .ok (.ireturn, 1) := by decide +kernel
theorem dX11_letterWrittenIn_27 : decode cX11_letterWrittenIn 27 = .ok (.aload_n 0, 1) := by decide +kernel
theorem dX11_letterWrittenIn_28 : decode cX11_letterWrittenIn 28 = .ok (.iconst 0, 1) := by decide +kernel
theorem dX11_letterWrittenIn_29 : decode cX11_letterWrittenIn 29 = .ok (.bipush 9, 2) := by decide +kernel
theorem dX11_letterWrittenIn_31 : decode cX11_letterWrittenIn 31 = .ok (.invokevirtual 83, 3) := by decide +kernel
theorem dX11_letterWrittenIn_34 : decode cX11_letterWrittenIn 34 = .ok (.aload_n 0, 1) := by decide +kernel
theorem dX11_letterWrittenIn_35 : decode cX11_letterWrittenIn 35 = .ok (.iload_n 1, 1) := by decide +kernel
theorem dX11_letterWrittenIn_36 : decode cX11_letterWrittenIn 36 = .ok (.invokevirtual 234, 3) := by decide +kernel
theorem dX11_letterWrittenIn_39 : decode cX11_letterWrittenIn 39 = .ok (.pop, 1) := by decide +kernel
theorem dX11_letterWrittenIn_40 : decode cX11_letterWrittenIn 40 = .ok (.aload_n 0, 1) := by decide +kernel
theorem dX11_letterWrittenIn_41 : decode cX11_letterWrittenIn 41 = .ok (.getfield 13, 3) := by decide +kernel
theorem dX11_letterWrittenIn_44 : decode cX11_letterWrittenIn 44 = .ok (.bipush 18, 2) := by decide +kernel
theorem dX11_letterWrittenIn_46 : decode cX11_letterWrittenIn 46 = .ok (.iaload, 1) := by decide +kernel
theorem dX11_letterWrittenIn_47 : decode cX11_letterWrittenIn 47 = .ok (.istore_n 2, 1) := by decide +kernel
theorem dX11_letterWrittenIn_48 : decode cX11_letterWrittenIn 48 = .ok (.aload_n 0, 1) := by decide +kernel
theorem dX11_letterWrittenIn_49 : decode cX11_letterWrittenIn 49 = .ok (.invokevirtual 143, 3) := by decide +kernel
theorem dX11_letterWrittenIn_52 : decode cX11_letterWrittenIn 52 = .ok (.aload_n 0, 1) := by decide +kernel
theorem dX11_letterWrittenIn_53 : decode cX11_letterWrittenIn 53 = .ok (.getfield 13, 3) := by decide +kernel
theorem dX11_letterWrittenIn_56 : decode cX11_letterWrittenIn 56 = .ok (.bipush 18, 2) := by decide +kernel
theorem dX11_letterWrittenIn_58 : decode cX11_letterWrittenIn 58 = .ok (.iaload, 1) := by decide +kernel
theorem dX11_letterWrittenIn_59 : decode cX11_letterWrittenIn 59 = .ok (.iload_n 2, 1) := by decide +kernel
theorem dX11_letterWrittenIn_60 : decode cX11_letterWrittenIn 60 = .ok (.if_icmp .le 13, 3) := by decide +kernel
theorem dX11_letterWrittenIn_63 : decode cX11_letterWrittenIn 63 = .ok (.aload_n 0, 1) := by decide +kernel
theorem dX11_letterWrittenIn_64 : decode cX11_letterWrittenIn 64 = .ok (.getfield 13, 3) := by decide +kernel
theorem dX11_letterWrittenIn_67 : decode cX11_letterWrittenIn 67 = .ok (.bipush 11, 2) := by decide +kernel
theorem dX11_letterWrittenIn_69 : decode cX11_letterWrittenIn 69 = .ok (.iaload, 1) := by decide +kernel
theorem dX11_letterWrittenIn_70 : decode cX11_letterWrittenIn 70 = .ok (.goto 4, 3) := by decide +kernel
theorem dX11_letterWrittenIn_73 : decode cX11_letterWrittenIn 73 = .ok (.iconst (-1), 1) := by decide +kernel
theorem dX11_letterWrittenIn_74 : decode cX11_letterWrittenIn 74 = .ok (.istore_n 3, 1) := by decide +kernel
theorem dX11_letterWrittenIn_75 : decode cX11_letterWrittenIn 75 = .ok (.aload_n 0, 1) := by decide +kernel
theorem dX11_letterWrittenIn_76 : decode cX11_letterWrittenIn 76 = .ok (.bipush 9, 2) := by decide +kernel
theorem dX11_letterWrittenIn_78 : decode cX11_letterWrittenIn 78 = .ok (.iconst 0, 1) := by decide +kernel
theorem dX11_letterWrittenIn_79 : decode cX11_letterWrittenIn 79 = .ok (.invokevirtual 83, 3) := by decide +kernel
theorem dX11_letterWrittenIn_82 : decode cX11_letterWrittenIn 82 = .ok (.iload_n 3, 1) := by decide +kernel
theorem dX11_letterWrittenIn_83 : decode cX11_letterWrittenIn 83 = .ok (.ireturn, 1) := by decide +kernel
theorem dX11_runFar_0 : decode cX11_runFar 0 = .ok (.aload_n 0, 1) := by decide +kernel
theorem dX11_runFar_1 : decode cX11_runFar 1 = .ok (.getfield 13, 3) := by decide +kernel
theorem dX11_runFar_4 : decode cX11_runFar 4 = .ok (.iconst 0, 1) := by decide +kernel
theorem dX11_runFar_5 : decode cX11_runFar 5 = .ok (.iload_n 1, 1) := by decide +kernel
theorem dX11_runFar_6 : decode cX11_runFar 6 = .ok (.iastore, 1) := by decide +kernel
theorem dX11_runFar_7 : decode cX11_runFar 7 = .ok (.aload_n 0, 1) := by decide +kernel
theorem dX11_runFar_8 : decode cX11_runFar 8 = .ok (.sipush 1500, 3) := by decide +kernel
theorem dX11_runFar_11 : decode cX11_runFar 11 = .ok (.invokevirtual 234, 3) := by decide +kernel
theorem dX11_runFar_14 : decode cX11_runFar 14 = .ok (.pop, 1) := by decide +kernel
theorem dX11_runFar_15 : decode cX11_runFar 15 = .ok (.return_, 1) := by decide +kernel
theorem dX11_lateBy_0 : decode cX11_lateBy 0 = .ok (.aload_n 0, 1) := by decide +kernel
theorem dX11_lateBy_1 : decode cX11_lateBy 1 = .ok (.iconst 0, 1) := by decide +kernel
theorem dX11_lateBy_2 : decode cX11_lateBy 2 = .ok (.bipush 9, 2) := by decide +kernel
theorem dX11_lateBy_4 : decode cX11_lateBy 4 = .ok (.invokevirtual 83, 3) := by decide +kernel
theorem dX11_lateBy_7 : decode cX11_lateBy 7 = .ok (.aload_n 0, 1) := by decide +kernel
theorem dX11_lateBy_8 : decode cX11_lateBy 8 = .ok (.iload_n 1, 1) := by decide +kernel
theorem dX11_lateBy_9 : decode cX11_lateBy 9 = .ok (.invokevirtual 267, 3) := by decide +kernel
theorem dX11_lateBy_12 : decode cX11_lateBy 12 = .ok (.aload_n 0, 1) := by decide +kernel
theorem dX11_lateBy_13 : decode cX11_lateBy 13 = .ok (.invokevirtual 264, 3) := by decide +kernel
theorem dX11_lateBy_16 : decode cX11_lateBy 16 = .ok (.aload_n 0, 1) := by decide +kernel
theorem dX11_lateBy_17 : decode cX11_lateBy 17 = .ok (.getfield 13, 3) := by decide +kernel
theorem dX11_lateBy_20 : decode cX11_lateBy 20 = .ok (.bipush 8, 2) := by decide +kernel
theorem dX11_lateBy_22 : decode cX11_lateBy 22 = .ok (.iaload, 1) := by decide +kernel
theorem dX11_lateBy_23 : decode cX11_lateBy 23 = .ok (.iadd, 1) := by decide +kernel
theorem dX11_lateBy_24 : decode cX11_lateBy 24 = .ok (.aload_n 0, 1) := by decide +kernel
theorem dX11_lateBy_25 : decode cX11_lateBy 25 = .ok (.invokevirtual 140, 3) := by decide +kernel
theorem dX11_lateBy_28 : decode cX11_lateBy 28 = .ok (.isub, 1) := by decide +kernel
theorem dX11_lateBy_29 : decode cX11_lateBy 29 = .ok (.istore_n 2, 1) := by decide +kernel
theorem dX11_lateBy_30 : decode cX11_lateBy 30 = .ok (.aload_n 0, 1) := by decide +kernel
theorem dX11_lateBy_31 : decode cX11_lateBy 31 = .ok (.bipush 9, 2) := by decide +kernel
theorem dX11_lateBy_33 : decode cX11_lateBy 33 = .ok (.iconst 0, 1) := by decide +kernel
theorem dX11_lateBy_34 : decode cX11_lateBy 34 = .ok (.invokevirtual 83, 3) := by decide +kernel
theorem dX11_lateBy_37 : decode cX11_lateBy 37 = .ok (.iload_n 2, 1) := by decide +kernel
theorem dX11_lateBy_38 : decode cX11_lateBy 38 = .ok (.ireturn, 1) := by decide +kernel
theorem dX11_waitingBy_0 : decode cX11_waitingBy 0 = .ok (.aload_n 0, 1) := by decide +kernel
theorem dX11_waitingBy_1 : decode cX11_waitingBy 1 = .ok (.iconst 0, 1) := by decide +kernel
theorem dX11_waitingBy_2 : decode cX11_waitingBy 2 = .ok (.bipush 9, 2) := by decide +kernel
theorem dX11_waitingBy_4 : decode cX11_waitingBy 4 = .ok (.invokevirtual 83, 3) := by decide +kernel
theorem dX11_waitingBy_7 : decode cX11_waitingBy 7 = .ok (.aload_n 0, 1) := by decide +kernel
theorem dX11_waitingBy_8 : decode cX11_waitingBy 8 = .ok (.iload_n 1, 1) := by decide +kernel
theorem dX11_waitingBy_9 : decode cX11_waitingBy 9 = .ok (.invokevirtual 267, 3) := by decide +kernel
theorem dX11_waitingBy_12 : decode cX11_waitingBy 12 = .ok (.iconst 0, 1) := by decide +kernel
theorem dX11_waitingBy_13 : decode cX11_waitingBy 13 = .ok (.istore_n 2, 1) := by decide +kernel
theorem dX11_waitingBy_14 : decode cX11_waitingBy 14 = .ok (.iconst 0, 1) := by decide +kernel
theorem dX11_waitingBy_15 : decode cX11_waitingBy 15 = .ok (.istore_n 3, 1) := by decide +kernel
theorem dX11_waitingBy_16 : decode cX11_waitingBy 16 = .ok (.iload_n 3, 1) := by decide +kernel
theorem dX11_waitingBy_17 : decode cX11_waitingBy 17 = .ok (.aload_n 0, 1) := by decide +kernel
theorem dX11_waitingBy_18 : decode cX11_waitingBy 18 = .ok (.getfield 13, 3) := by decide +kernel
theorem dX11_waitingBy_21 : decode cX11_waitingBy 21 = .ok (.bipush 8, 2) := by decide +kernel
theorem dX11_waitingBy_23 : decode cX11_waitingBy 23 = .ok (.iaload, 1) := by decide +kernel
theorem dX11_waitingBy_24 : decode cX11_waitingBy 24 = .ok (.if_icmp .ge 17, 3) := by decide +kernel
theorem dX11_waitingBy_27 : decode cX11_waitingBy 27 = .ok (.iload_n 2, 1) := by decide +kernel
theorem dX11_waitingBy_28 : decode cX11_waitingBy 28 = .ok (.aload_n 0, 1) := by decide +kernel
theorem dX11_waitingBy_29 : decode cX11_waitingBy 29 = .ok (.iload_n 3, 1) := by decide +kernel
theorem dX11_waitingBy_30 : decode cX11_waitingBy 30 = .ok (.invokevirtual 98, 3) := by decide +kernel
theorem dX11_waitingBy_33 : decode cX11_waitingBy 33 = .ok (.iadd, 1) := by decide +kernel
theorem dX11_waitingBy_34 : decode cX11_waitingBy 34 = .ok (.istore_n 2, 1) := by decide +kernel
theorem dX11_waitingBy_35 : decode cX11_waitingBy 35 = .ok (.iinc 3 1, 3) := by decide +kernel
theorem dX11_waitingBy_38 : decode cX11_waitingBy 38 = .ok (.goto (-22), 3) := by decide +kernel
theorem dX11_waitingBy_41 : decode cX11_waitingBy 41 = .ok (.aload_n 0, 1) := by decide +kernel
theorem dX11_waitingBy_42 : decode cX11_waitingBy 42 = .ok (.bipush 9, 2) := by decide +kernel
theorem dX11_waitingBy_44 : decode cX11_waitingBy 44 = .ok (.iconst 0, 1) := by decide +kernel
theorem dX11_waitingBy_45 : decode cX11_waitingBy 45 = .ok (.invokevirtual 83, 3) := by decide +kernel
theorem dX11_waitingBy_48 : decode cX11_waitingBy 48 = .ok (.iload_n 2, 1) := by decide +kernel
theorem dX11_waitingBy_49 : decode cX11_waitingBy 49 = .ok (.ireturn, 1) := by decide +kernel
theorem dX11_lateWith_0 : decode cX11_lateWith 0 = .ok (.aload_n 0, 1) := by decide +kernel
theorem dX11_lateWith_1 : decode cX11_lateWith 1 = .ok (.iload_n 1, 1) := by decide +kernel
theorem dX11_lateWith_2 : decode cX11_lateWith 2 = .ok (.iconst 0, 1) := by decide +kernel
theorem dX11_lateWith_3 : decode cX11_lateWith 3 = .ok (.iconst 4, 1) := by decide +kernel
theorem dX11_lateWith_4 : decode cX11_lateWith 4 = .ok (.invokestatic 79, 3) := by decide +kernel
theorem dX11_lateWith_7 : decode cX11_lateWith 7 = .ok (.ifCond .ne 7, 3) := by decide +kernel
theorem dX11_lateWith_10 : decode cX11_lateWith 10 = .ok (.iconst 1, 1) := by decide +kernel
theorem dX11_lateWith_11 : decode cX11_lateWith 11 = .ok (.goto 4, 3) := by decide +kernel
theorem dX11_lateWith_14 : decode cX11_lateWith 14 = .ok (.iconst 0, 1) := by decide +kernel
theorem dX11_lateWith_15 : decode cX11_lateWith 15 = .ok (.iconst 0, 1) := by decide +kernel
theorem dX11_lateWith_16 : decode cX11_lateWith 16 = .ok (.iconst 0, 1) := by decide +kernel
theorem dX11_lateWith_17 : decode cX11_lateWith 17 = .ok (.invokevirtual 146, 3) := by decide +kernel
theorem dX11_lateWith_20 : decode cX11_lateWith 20 = .ok (.ifCond .eq 5, 3) := by decide +kernel
theorem dX11_lateWith_23 : decode cX11_lateWith 23 = .ok (.iconst 0, 1) := by decide +kernel
theorem dX11_lateWith_24 : decode cX11_lateWith 24 = .ok (.ireturn, 1) := by decide +kernel
theorem dX11_lateWith_25 : decode cX11_lateWith 25 = .ok (.aload_n 0, 1) := by decide +kernel
theorem dX11_lateWith_26 : decode cX11_lateWith 26 = .ok (.iload_n 1, 1) := by decide +kernel
theorem dX11_lateWith_27 : decode cX11_lateWith 27 = .ok (.invokevirtual 270, 3) := by decide +kernel
theorem dX11_lateWith_30 : decode cX11_lateWith 30 = .ok (.ireturn, 1) := by decide +kernel
theorem dX11_waitingWith_0 : decode cX11_waitingWith 0 = .ok (.aload_n 0, 1) := by decide +kernel
theorem dX11_waitingWith_1 : decode cX11_waitingWith 1 = .ok (.iload_n 1, 1) := by decide +kernel
theorem dX11_waitingWith_2 : decode cX11_waitingWith 2 = .ok (.iconst 0, 1) := by decide +kernel
theorem dX11_waitingWith_3 : decode cX11_waitingWith 3 = .ok (.iconst 4, 1) := by decide +kernel
theorem dX11_waitingWith_4 : decode cX11_waitingWith 4 = .ok (.invokestatic 79, 3) := by decide +kernel
theorem dX11_waitingWith_7 : decode cX11_waitingWith 7 = .ok (.ifCond .ne 7, 3) := by decide +kernel
theorem dX11_waitingWith_10 : decode cX11_waitingWith 10 = .ok (.iconst 1, 1) := by decide +kernel
theorem dX11_waitingWith_11 : decode cX11_waitingWith 11 = .ok (.goto 4, 3) := by decide +kernel
theorem dX11_waitingWith_14 : decode cX11_waitingWith 14 = .ok (.iconst 0, 1) := by decide +kernel
theorem dX11_waitingWith_15 : decode cX11_waitingWith 15 = .ok (.iconst 0, 1) := by decide +kernel
theorem dX11_waitingWith_16 : decode cX11_waitingWith 16 = .ok (.iconst 0, 1) := by decide +kernel
theorem dX11_waitingWith_17 : decode cX11_waitingWith 17 = .ok (.invokevirtual 146, 3) := by decide +kernel
theorem dX11_waitingWith_20 : decode cX11_waitingWith 20 = .ok (.ifCond .eq 5, 3) := by decide +kernel
theorem dX11_waitingWith_23 : decode cX11_waitingWith 23 = .ok (.iconst 0, 1) := by decide +kernel
theorem dX11_waitingWith_24 : decode cX11_waitingWith 24 = .ok (.ireturn, 1) := by decide +kernel
theorem dX11_waitingWith_25 : decode cX11_waitingWith 25 = .ok (.aload_n 0, 1) := by decide +kernel
theorem dX11_waitingWith_26 : decode cX11_waitingWith 26 = .ok (.iload_n 1, 1) := by decide +kernel
theorem dX11_waitingWith_27 : decode cX11_waitingWith 27 = .ok (.invokevirtual 273, 3) := by decide +kernel
theorem dX11_waitingWith_30 : decode cX11_waitingWith 30 = .ok (.ireturn, 1) := by decide +kernel
theorem dX11_bestPolicy_0 : decode cX11_bestPolicy 0 = .ok (.aload_n 0, 1) := by decide +kernel
theorem dX11_bestPolicy_1 : decode cX11_bestPolicy 1 = .ok (.iconst 0, 1) := by decide +kernel
theorem dX11_bestPolicy_2 : decode cX11_bestPolicy 2 = .ok (.putfield 1, 3) := by decide +kernel
theorem dX11_bestPolicy_5 : decode cX11_bestPolicy 5 = .ok (.iconst 0, 1) := by decide +kernel
theorem dX11_bestPolicy_6 : decode cX11_bestPolicy 6 = .ok (.istore_n 1, 1) := by decide +kernel
theorem dX11_bestPolicy_7 : decode cX11_bestPolicy 7 = .ok (.iconst 1, 1) := by decide +kernel
theorem dX11_bestPolicy_8 : decode cX11_bestPolicy 8 = .ok (.istore_n 2, 1) := by decide +kernel
theorem dX11_bestPolicy_9 : decode cX11_bestPolicy 9 = .ok (.iload_n 2, 1) := by decide +kernel
theorem dX11_bestPolicy_10 : decode cX11_bestPolicy 10 = .ok (.iconst 4, 1) := by decide +kernel
theorem dX11_bestPolicy_11 : decode cX11_bestPolicy 11 = .ok (.if_icmp .gt 44, 3) := by decide +kernel
theorem dX11_bestPolicy_14 : decode cX11_bestPolicy 14 = .ok (.aload_n 0, 1) := by decide +kernel
theorem dX11_bestPolicy_15 : decode cX11_bestPolicy 15 = .ok (.iload_n 2, 1) := by decide +kernel
theorem dX11_bestPolicy_16 : decode cX11_bestPolicy 16 = .ok (.invokevirtual 270, 3) := by decide +kernel
theorem dX11_bestPolicy_19 : decode cX11_bestPolicy 19 = .ok (.aload_n 0, 1) := by decide +kernel
theorem dX11_bestPolicy_20 : decode cX11_bestPolicy 20 = .ok (.iload_n 1, 1) := by decide +kernel
theorem dX11_bestPolicy_21 : decode cX11_bestPolicy 21 = .ok (.invokevirtual 270, 3) := by decide +kernel
theorem dX11_bestPolicy_24 : decode cX11_bestPolicy 24 = .ok (.isub, 1) := by decide +kernel
theorem dX11_bestPolicy_25 : decode cX11_bestPolicy 25 = .ok (.istore_n 3, 1) := by decide +kernel
theorem dX11_bestPolicy_26 : decode cX11_bestPolicy 26 = .ok (.iload_n 3, 1) := by decide +kernel
theorem dX11_bestPolicy_27 : decode cX11_bestPolicy 27 = .ok (.ifCond .lt 20, 3) := by decide +kernel
theorem dX11_bestPolicy_30 : decode cX11_bestPolicy 30 = .ok (.iload_n 3, 1) := by decide +kernel
theorem dX11_bestPolicy_31 : decode cX11_bestPolicy 31 = .ok (.ifCond .ne 18, 3) := by decide +kernel
theorem dX11_bestPolicy_34 : decode cX11_bestPolicy 34 = .ok (.aload_n 0, 1) := by decide +kernel
theorem dX11_bestPolicy_35 : decode cX11_bestPolicy 35 = .ok (.iload_n 2, 1) := by decide +kernel
theorem dX11_bestPolicy_36 : decode cX11_bestPolicy 36 = .ok (.invokevirtual 273, 3) := by decide +kernel
theorem dX11_bestPolicy_39 : decode cX11_bestPolicy 39 = .ok (.aload_n 0, 1) := by decide +kernel
theorem dX11_bestPolicy_40 : decode cX11_bestPolicy 40 = .ok (.iload_n 1, 1) := by decide +kernel
theorem dX11_bestPolicy_41 : decode cX11_bestPolicy 41 = .ok (.invokevirtual 273, 3) := by decide +kernel
theorem dX11_bestPolicy_44 : decode cX11_bestPolicy 44 = .ok (.if_icmp .ge 5, 3) := by decide +kernel
theorem dX11_bestPolicy_47 : decode cX11_bestPolicy 47 = .ok (.iload_n 2, 1) := by decide +kernel
theorem dX11_bestPolicy_48 : decode cX11_bestPolicy 48 = .ok (.istore_n 1, 1) := by decide +kernel
theorem dX11_bestPolicy_49 : decode cX11_bestPolicy 49 = .ok (.iinc 2 1, 3) := by decide +kernel
theorem dX11_bestPolicy_52 : decode cX11_bestPolicy 52 = .ok (.goto (-43), 3) := by decide +kernel
theorem dX11_bestPolicy_55 : decode cX11_bestPolicy 55 = .ok (.iload_n 1, 1) := by decide +kernel
theorem dX11_bestPolicy_56 : decode cX11_bestPolicy 56 = .ok (.ireturn, 1) := by decide +kernel
theorem dX11_orderByDeadline_0 : decode cX11_orderByDeadline 0 = .ok (.iconst 0, 1) := by decide +kernel
theorem dX11_orderByDeadline_1 : decode cX11_orderByDeadline 1 = .ok (.istore_n 1, 1) := by decide +kernel
theorem dX11_orderByDeadline_2 : decode cX11_orderByDeadline 2 = .ok (.iconst 0, 1) := by decide +kernel
theorem dX11_orderByDeadline_3 : decode cX11_orderByDeadline 3 = .ok (.istore_n 2, 1) := by decide +kernel
theorem dX11_orderByDeadline_4 : decode cX11_orderByDeadline 4 = .ok (.iload_n 2, 1) := by decide +kernel
theorem dX11_orderByDeadline_5 : decode cX11_orderByDeadline 5 = .ok (.aload_n 0, 1) := by decide +kernel
theorem dX11_orderByDeadline_6 : decode cX11_orderByDeadline 6 = .ok (.getfield 13, 3) := by decide +kernel
theorem dX11_orderByDeadline_9 : decode cX11_orderByDeadline 9 = .ok (.bipush 8, 2) := by decide +kernel
theorem dX11_orderByDeadline_11 : decode cX11_orderByDeadline 11 = .ok (.iaload, 1) := by decide +kernel
theorem dX11_orderByDeadline_12 : decode cX11_orderByDeadline 12 = .ok (.if_icmp .ge 78, 3) := by decide +kernel
theorem dX11_orderByDeadline_15 : decode cX11_orderByDeadline 15 = .ok (.aload_n 0, 1) := by decide +kernel
theorem dX11_orderByDeadline_16 : decode cX11_orderByDeadline 16 = .ok (.iload_n 2, 1) := by decide +kernel
theorem dX11_orderByDeadline_17 : decode cX11_orderByDeadline 17 = .ok (.invokevirtual 95, 3) := by decide +kernel
theorem dX11_orderByDeadline_20 : decode cX11_orderByDeadline 20 = .ok (.ifCond .eq 6, 3) := by decide +kernel
theorem dX11_orderByDeadline_23 : decode cX11_orderByDeadline 23 = .ok (.goto 61, 3) := by decide +kernel
theorem dX11_orderByDeadline_26 : decode cX11_orderByDeadline 26 = .ok (.iload_n 1, 1) := by decide +kernel
theorem dX11_orderByDeadline_27 : decode cX11_orderByDeadline 27 = .ok (.istore_n 3, 1) := by decide +kernel
theorem dX11_orderByDeadline_28 : decode cX11_orderByDeadline 28 = .ok (.iload_n 3, 1) := by decide +kernel
theorem dX11_orderByDeadline_29 : decode cX11_orderByDeadline 29 = .ok (.ifCond .le 45, 3) := by decide +kernel
theorem dX11_orderByDeadline_32 : decode cX11_orderByDeadline 32 = .ok (.aload_n 0, 1) := by decide +kernel
theorem dX11_orderByDeadline_33 : decode cX11_orderByDeadline 33 = .ok (.aload_n 0, 1) := by decide +kernel
theorem dX11_orderByDeadline_34 : decode cX11_orderByDeadline 34 = .ok (.getfield 57, 3) := by decide +kernel
theorem dX11_orderByDeadline_37 : decode cX11_orderByDeadline 37 = .ok (.iload_n 3, 1) := by decide +kernel
theorem dX11_orderByDeadline_38 : decode cX11_orderByDeadline 38 = .ok (.iconst 1, 1) := by decide +kernel
theorem dX11_orderByDeadline_39 : decode cX11_orderByDeadline 39 = .ok (.isub, 1) := by decide +kernel
theorem dX11_orderByDeadline_40 : decode cX11_orderByDeadline 40 = .ok (.iaload, 1) := by decide +kernel
theorem dX11_orderByDeadline_41 : decode cX11_orderByDeadline 41 = .ok (.iconst 3, 1) := by decide +kernel
theorem dX11_orderByDeadline_42 : decode cX11_orderByDeadline 42 = .ok (.invokevirtual 87, 3) := by decide +kernel
theorem dX11_orderByDeadline_45 : decode cX11_orderByDeadline 45 = .ok (.aload_n 0, 1) := by decide +kernel
theorem dX11_orderByDeadline_46 : decode cX11_orderByDeadline 46 = .ok (.iload_n 2, 1) := by decide +kernel
theorem dX11_orderByDeadline_47 : decode cX11_orderByDeadline 47 = .ok (.iconst 3, 1) := by decide +kernel
theorem dX11_orderByDeadline_48 : decode cX11_orderByDeadline 48 = .ok (.invokevirtual 87, 3) := by decide +kernel
theorem dX11_orderByDeadline_51 : decode cX11_orderByDeadline 51 = .ok (.if_icmp .le 23, 3) := by decide +kernel
theorem dX11_orderByDeadline_54 : decode cX11_orderByDeadline 54 = .ok (.aload_n 0, 1) := by decide +kernel
theorem dX11_orderByDeadline_55 : decode cX11_orderByDeadline 55 = .ok (.getfield 57, 3) := by decide +kernel
theorem dX11_orderByDeadline_58 : decode cX11_orderByDeadline 58 = .ok (.iload_n 3, 1) := by decide +kernel
theorem dX11_orderByDeadline_59 : decode cX11_orderByDeadline 59 = .ok (.aload_n 0, 1) := by decide +kernel
theorem dX11_orderByDeadline_60 : decode cX11_orderByDeadline 60 = .ok (.getfield 57, 3) := by decide +kernel
theorem dX11_orderByDeadline_63 : decode cX11_orderByDeadline 63 = .ok (.iload_n 3, 1) := by decide +kernel
theorem dX11_orderByDeadline_64 : decode cX11_orderByDeadline 64 = .ok (.iconst 1, 1) := by decide +kernel
theorem dX11_orderByDeadline_65 : decode cX11_orderByDeadline 65 = .ok (.isub, 1) := by decide +kernel
theorem dX11_orderByDeadline_66 : decode cX11_orderByDeadline 66 = .ok (.iaload, 1) := by decide +kernel
theorem dX11_orderByDeadline_67 : decode cX11_orderByDeadline 67 = .ok (.iastore, 1) := by decide +kernel
theorem dX11_orderByDeadline_68 : decode cX11_orderByDeadline 68 = .ok (.iinc 3 (-1), 3) := by decide +kernel
theorem dX11_orderByDeadline_71 : decode cX11_orderByDeadline 71 = .ok (.goto (-43), 3) := by decide +kernel
theorem dX11_orderByDeadline_74 : decode cX11_orderByDeadline 74 = .ok (.aload_n 0, 1) := by decide +kernel
theorem dX11_orderByDeadline_75 : decode cX11_orderByDeadline 75 = .ok (.getfield 57, 3) := by decide +kernel
theorem dX11_orderByDeadline_78 : decode cX11_orderByDeadline 78 = .ok (.iload_n 3, 1) := by decide +kernel
theorem dX11_orderByDeadline_79 : decode cX11_orderByDeadline 79 = .ok (.iload_n 2, 1) := by decide +kernel
theorem dX11_orderByDeadline_80 : decode cX11_orderByDeadline 80 = .ok (.iastore, 1) := by decide +kernel
theorem dX11_orderByDeadline_81 : decode cX11_orderByDeadline 81 = .ok (.iinc 1 1, 3) := by decide +kernel
theorem dX11_orderByDeadline_84 : decode cX11_orderByDeadline 84 = .ok (.iinc 2 1, 3) := by decide +kernel
theorem dX11_orderByDeadline_87 : decode cX11_orderByDeadline 87 = .ok (.goto (-83), 3) := by decide +kernel
theorem dX11_orderByDeadline_90 : decode cX11_orderByDeadline 90 = .ok (.iload_n 1, 1) := by decide +kernel
theorem dX11_orderByDeadline_91 : decode cX11_orderByDeadline 91 = .ok (.ireturn, 1) := by decide +kernel
theorem dX11_isInTime_0 : decode cX11_isInTime 0 = .ok (.aload_n 0, 1) := by decide +kernel
theorem dX11_isInTime_1 : decode cX11_isInTime 1 = .ok (.getfield 13, 3) := by decide +kernel
theorem dX11_isInTime_4 : decode cX11_isInTime 4 = .ok (.bipush 9, 2) := by decide +kernel
theorem dX11_isInTime_6 : decode cX11_isInTime 6 = .ok (.iaload, 1) := by decide +kernel
theorem dX11_isInTime_7 : decode cX11_isInTime 7 = .ok (.istore_n 3, 1) := by decide +kernel
theorem dX11_isInTime_8 : decode cX11_isInTime 8 = .ok (.iconst 0, 1) := by decide +kernel
theorem dX11_isInTime_9 : decode cX11_isInTime 9 = .ok (.istore 4, 2) := by decide +kernel
theorem dX11_isInTime_11 : decode cX11_isInTime 11 = .ok (.iload 4, 2) := by decide +kernel
theorem dX11_isInTime_13 : decode cX11_isInTime 13 = .ok (.iload_n 2, 1) := by decide +kernel
theorem dX11_isInTime_14 : decode cX11_isInTime 14 = .ok (.if_icmp .ge 54, 3) := by decide +kernel
theorem dX11_isInTime_17 : decode cX11_isInTime 17 = .ok (.iload_n 1, 1) := by decide +kernel
theorem dX11_isInTime_18 : decode cX11_isInTime 18 = .ok (.iload 4, 2) := by decide +kernel
theorem dX11_isInTime_20 : decode cX11_isInTime 20 = .ok (.ishr, 1) := by decide +kernel
theorem dX11_isInTime_21 : decode cX11_isInTime 21 = .ok (.iconst 1, 1) := by decide +kernel
theorem dX11_isInTime_22 : decode cX11_isInTime 22 = .ok (.iand, 1) := by decide +kernel
theorem dX11_isInTime_23 : decode cX11_isInTime 23 = .ok (.ifCond .ne 6, 3) := by decide +kernel
theorem dX11_isInTime_26 : decode cX11_isInTime 26 = .ok (.goto 36, 3) := by decide +kernel
theorem dX11_isInTime_29 : decode cX11_isInTime 29 = .ok (.iload_n 3, 1) := by decide +kernel
theorem dX11_isInTime_30 : decode cX11_isInTime 30 = .ok (.aload_n 0, 1) := by decide +kernel
theorem dX11_isInTime_31 : decode cX11_isInTime 31 = .ok (.aload_n 0, 1) := by decide +kernel
theorem dX11_isInTime_32 : decode cX11_isInTime 32 = .ok (.getfield 57, 3) := by decide +kernel
theorem dX11_isInTime_35 : decode cX11_isInTime 35 = .ok (.iload 4, 2) := by decide +kernel
theorem dX11_isInTime_37 : decode cX11_isInTime 37 = .ok (.iaload, 1) := by decide +kernel
theorem dX11_isInTime_38 : decode cX11_isInTime 38 = .ok (.iconst 5, 1) := by decide +kernel
theorem dX11_isInTime_39 : decode cX11_isInTime 39 = .ok (.invokevirtual 87, 3) := by decide +kernel
theorem dX11_isInTime_42 : decode cX11_isInTime 42 = .ok (.iadd, 1) := by decide +kernel
theorem dX11_isInTime_43 : decode cX11_isInTime 43 = .ok (.istore_n 3, 1) := by decide +kernel
theorem dX11_isInTime_44 : decode cX11_isInTime 44 = .ok (.iload_n 3, 1) := by decide +kernel
theorem dX11_isInTime_45 : decode cX11_isInTime 45 = .ok (.aload_n 0, 1) := by decide +kernel
theorem dX11_isInTime_46 : decode cX11_isInTime 46 = .ok (.aload_n 0, 1) := by decide +kernel
theorem dX11_isInTime_47 : decode cX11_isInTime 47 = .ok (.getfield 57, 3) := by decide +kernel
theorem dX11_isInTime_50 : decode cX11_isInTime 50 = .ok (.iload 4, 2) := by decide +kernel
theorem dX11_isInTime_52 : decode cX11_isInTime 52 = .ok (.iaload, 1) := by decide +kernel
theorem dX11_isInTime_53 : decode cX11_isInTime 53 = .ok (.iconst 3, 1) := by decide +kernel
theorem dX11_isInTime_54 : decode cX11_isInTime 54 = .ok (.invokevirtual 87, 3) := by decide +kernel
theorem dX11_isInTime_57 : decode cX11_isInTime 57 = .ok (.if_icmp .le 5, 3) := by decide +kernel
theorem dX11_isInTime_60 : decode cX11_isInTime 60 = .ok (.iconst 0, 1) := by decide +kernel
theorem dX11_isInTime_61 : decode cX11_isInTime 61 = .ok (.ireturn, 1) := by decide +kernel
theorem dX11_isInTime_62 : decode cX11_isInTime 62 = .ok (.iinc 4 1, 3) := by decide +kernel
theorem dX11_isInTime_65 : decode cX11_isInTime 65 = .ok (.goto (-54), 3) := by decide +kernel
theorem dX11_isInTime_68 : decode cX11_isInTime 68 = .ok (.iconst 1, 1) := by decide +kernel
theorem dX11_isInTime_69 : decode cX11_isInTime 69 = .ok (.ireturn, 1) := by decide +kernel
theorem dX11_count_0 : decode cX11_count 0 = .ok (.iconst 0, 1) := by decide +kernel
theorem dX11_count_1 : decode cX11_count 1 = .ok (.istore_n 1, 1) := by decide +kernel
theorem dX11_count_2 : decode cX11_count 2 = .ok (.iload_n 0, 1) := by decide +kernel
theorem dX11_count_3 : decode cX11_count 3 = .ok (.istore_n 2, 1) := by decide +kernel
theorem dX11_count_4 : decode cX11_count 4 = .ok (.iload_n 2, 1) := by decide +kernel
theorem dX11_count_5 : decode cX11_count 5 = .ok (.ifCond .le 16, 3) := by decide +kernel
theorem dX11_count_8 : decode cX11_count 8 = .ok (.iload_n 1, 1) := by decide +kernel
theorem dX11_count_9 : decode cX11_count 9 = .ok (.iload_n 2, 1) := by decide +kernel
theorem dX11_count_10 : decode cX11_count 10 = .ok (.iconst 1, 1) := by decide +kernel
theorem dX11_count_11 : decode cX11_count 11 = .ok (.iand, 1) := by decide +kernel
theorem dX11_count_12 : decode cX11_count 12 = .ok (.iadd, 1) := by decide +kernel
theorem dX11_count_13 : decode cX11_count 13 = .ok (.istore_n 1, 1) := by decide +kernel
theorem dX11_count_14 : decode cX11_count 14 = .ok (.iload_n 2, 1) := by decide +kernel
theorem dX11_count_15 : decode cX11_count 15 = .ok (.iconst 1, 1) := by decide +kernel
theorem dX11_count_16 : decode cX11_count 16 = .ok (.ishr, 1) := by decide +kernel
theorem dX11_count_17 : decode cX11_count 17 = .ok (.istore_n 2, 1) := by decide +kernel
theorem dX11_count_18 : decode cX11_count 18 = .ok (.goto (-14), 3) := by decide +kernel
theorem dX11_count_21 : decode cX11_count 21 = .ok (.iload_n 1, 1) := by decide +kernel
theorem dX11_count_22 : decode cX11_count 22 = .ok (.ireturn, 1) := by decide +kernel
theorem dX11_fewestLate_0 : decode cX11_fewestLate 0 = .ok (.aload_n 0, 1) := by decide +kernel
theorem dX11_fewestLate_1 : decode cX11_fewestLate 1 = .ok (.iconst 0, 1) := by decide +kernel
theorem dX11_fewestLate_2 : decode cX11_fewestLate 2 = .ok (.putfield 1, 3) := by decide +kernel
theorem dX11_fewestLate_5 : decode cX11_fewestLate 5 = .ok (.aload_n 0, 1) := by decide +kernel
theorem dX11_fewestLate_6 : decode cX11_fewestLate 6 = .ok (.invokevirtual 276, 3) := by decide +kernel
theorem dX11_fewestLate_9 : decode cX11_fewestLate 9 = .ok (.istore_n 1, 1) := by decide +kernel
theorem dX11_fewestLate_10 : decode cX11_fewestLate 10 = .ok (.iconst 0, 1) := by decide +kernel
theorem dX11_fewestLate_11 : decode cX11_fewestLate 11 = .ok (.istore_n 2, 1) := by decide +kernel
theorem dX11_fewestLate_12 : decode cX11_fewestLate 12 = .ok (.iconst 1, 1) := by decide +kernel
theorem dX11_fewestLate_13 : decode cX11_fewestLate 13 = .ok (.istore_n 3, 1) := by decide +kernel
theorem dX11_fewestLate_14 : decode cX11_fewestLate 14 = .ok (.iload_n 3, 1) := by decide +kernel
theorem dX11_fewestLate_15 : decode cX11_fewestLate 15 = .ok (.iconst 1, 1) := by decide +kernel
theorem dX11_fewestLate_16 : decode cX11_fewestLate 16 = .ok (.iload_n 1, 1) := by decide +kernel
theorem dX11_fewestLate_17 : decode cX11_fewestLate 17 = .ok (.ishl, 1) := by decide +kernel
theorem dX11_fewestLate_18 : decode cX11_fewestLate 18 = .ok (.if_icmp .ge 31, 3) := by decide +kernel
theorem dX11_fewestLate_21 : decode cX11_fewestLate 21 = .ok (.iload_n 3, 1) := by decide +kernel
theorem dX11_fewestLate_22 : decode cX11_fewestLate 22 = .ok (.invokestatic 279, 3) := by decide +kernel
theorem dX11_fewestLate_25 : decode cX11_fewestLate 25 = .ok (.iload_n 2, 1) := by decide +kernel
theorem dX11_fewestLate_26 : decode cX11_fewestLate 26 = .ok (.if_icmp .le 17, 3) := by decide +kernel
theorem dX11_fewestLate_29 : decode cX11_fewestLate 29 = .ok (.aload_n 0, 1) := by decide +kernel
theorem dX11_fewestLate_30 : decode cX11_fewestLate 30 = .ok (.iload_n 3, 1) := by decide +kernel
theorem dX11_fewestLate_31 : decode cX11_fewestLate 31 = .ok (.iload_n 1, 1) := by decide +kernel
theorem dX11_fewestLate_32 : decode cX11_fewestLate 32 = .ok (.invokevirtual 282, 3) := by decide +kernel
theorem dX11_fewestLate_35 : decode cX11_fewestLate 35 = .ok (.ifCond .eq 8, 3) := by decide +kernel
theorem dX11_fewestLate_38 : decode cX11_fewestLate 38 = .ok (.iload_n 3, 1) := by decide +kernel
theorem dX11_fewestLate_39 : decode cX11_fewestLate 39 = .ok (.invokestatic 279, 3) := by decide +kernel
theorem dX11_fewestLate_42 : decode cX11_fewestLate 42 = .ok (.istore_n 2, 1) := by decide +kernel
theorem dX11_fewestLate_43 : decode cX11_fewestLate 43 = .ok (.iinc 3 1, 3) := by decide +kernel
theorem dX11_fewestLate_46 : decode cX11_fewestLate 46 = .ok (.goto (-32), 3) := by decide +kernel
theorem dX11_fewestLate_49 : decode cX11_fewestLate 49 = .ok (.iload_n 1, 1) := by decide +kernel
theorem dX11_fewestLate_50 : decode cX11_fewestLate 50 = .ok (.iload_n 2, 1) := by decide +kernel
theorem dX11_fewestLate_51 : decode cX11_fewestLate 51 = .ok (.isub, 1) := by decide +kernel
theorem dX11_fewestLate_52 : decode cX11_fewestLate 52 = .ok (.ireturn, 1) := by decide +kernel
theorem dX11_addLetter_0 : decode cX11_addLetter 0 = .ok (.iload_n 2, 1) := by decide +kernel
theorem dX11_addLetter_1 : decode cX11_addLetter 1 = .ok (.iload_n 3, 1) := by decide +kernel
theorem dX11_addLetter_2 : decode cX11_addLetter 2 = .ok (.iload 4, 2) := by decide +kernel
theorem dX11_addLetter_4 : decode cX11_addLetter 4 = .ok (.iload 5, 2) := by decide +kernel
theorem dX11_addLetter_6 : decode cX11_addLetter 6 = .ok (.invokestatic 224, 3) := by decide +kernel
theorem dX11_addLetter_9 : decode cX11_addLetter 9 = .ok (.istore 6, 2) := by decide +kernel
theorem dX11_addLetter_11 : decode cX11_addLetter 11 = .ok (.aload_n 0, 1) := by decide +kernel
theorem dX11_addLetter_12 : decode cX11_addLetter 12 = .ok (.aload_n 0, 1) := by decide +kernel
theorem dX11_addLetter_13 : decode cX11_addLetter 13 = .ok (.iload_n 1, 1) := by decide +kernel
theorem dX11_addLetter_14 : decode cX11_addLetter 14 = .ok (.invokevirtual 255, 3) := by decide +kernel
theorem dX11_addLetter_17 : decode cX11_addLetter 17 = .ok (.ifCond .ne 7, 3) := by decide +kernel
theorem dX11_addLetter_20 : decode cX11_addLetter 20 = .ok (.iconst 1, 1) := by decide +kernel
theorem dX11_addLetter_21 : decode cX11_addLetter 21 = .ok (.goto 4, 3) := by decide +kernel
theorem dX11_addLetter_24 : decode cX11_addLetter 24 = .ok (.iconst 0, 1) := by decide +kernel
theorem dX11_addLetter_25 : decode cX11_addLetter 25 = .ok (.iload 6, 2) := by decide +kernel
theorem dX11_addLetter_27 : decode cX11_addLetter 27 = .ok (.ifCond .ne 7, 3) := by decide +kernel
theorem dX11_addLetter_30 : decode cX11_addLetter 30 = .ok (.iconst 1, 1) := by decide +kernel
theorem dX11_addLetter_31 : decode cX11_addLetter 31 = .ok (.goto 4, 3) := by decide +kernel
theorem dX11_addLetter_34 : decode cX11_addLetter 34 = .ok (.iconst 0, 1) := by decide +kernel
theorem dX11_addLetter_35 : decode cX11_addLetter 35 = .ok (.iload 6, 2) := by decide +kernel
theorem dX11_addLetter_37 : decode cX11_addLetter 37 = .ok (.ifCond .eq 15, 3) := by decide +kernel
theorem dX11_addLetter_40 : decode cX11_addLetter 40 = .ok (.aload_n 0, 1) := by decide +kernel
theorem dX11_addLetter_41 : decode cX11_addLetter 41 = .ok (.iload_n 3, 1) := by decide +kernel
theorem dX11_addLetter_42 : decode cX11_addLetter 42 = .ok (.invokevirtual 228, 3) := by decide +kernel
theorem dX11_addLetter_45 : decode cX11_addLetter 45 = .ok (.ifCond .ne 7, 3) := by decide +kernel
theorem dX11_addLetter_48 : decode cX11_addLetter 48 = .ok (.iconst 1, 1) := by decide +kernel
theorem dX11_addLetter_49 : decode cX11_addLetter 49 = .ok (.goto 4, 3) := by decide +kernel
theorem dX11_addLetter_52 : decode cX11_addLetter 52 = .ok (.iconst 0, 1) := by decide +kernel
theorem dX11_addLetter_53 : decode cX11_addLetter 53 = .ok (.invokevirtual 146, 3) := by decide +kernel
theorem dX11_addLetter_56 : decode cX11_addLetter 56 = .ok (.ifCond .eq 5, 3) := by decide +kernel
theorem dX11_addLetter_59 : decode cX11_addLetter 59 = .ok (.iconst 0, 1) := by decide +kernel
theorem dX11_addLetter_60 : decode cX11_addLetter 60 = .ok (.ireturn, 1) := by decide +kernel
theorem dX11_addLetter_61 : decode cX11_addLetter 61 = .ok (.aload_n 0, 1) := by decide +kernel
theorem dX11_addLetter_62 : decode cX11_addLetter 62 = .ok (.iconst 0, 1) := by decide +kernel
theorem dX11_addLetter_63 : decode cX11_addLetter 63 = .ok (.invokevirtual 243, 3) := by decide +kernel
theorem dX11_addLetter_66 : decode cX11_addLetter 66 = .ok (.aload_n 0, 1) := by decide +kernel
theorem dX11_addLetter_67 : decode cX11_addLetter 67 = .ok (.iload_n 1, 1) := by decide +kernel
theorem dX11_addLetter_68 : decode cX11_addLetter 68 = .ok (.iload_n 2, 1) := by decide +kernel
theorem dX11_addLetter_69 : decode cX11_addLetter 69 = .ok (.aload_n 0, 1) := by decide +kernel
theorem dX11_addLetter_70 : decode cX11_addLetter 70 = .ok (.getfield 13, 3) := by decide +kernel
theorem dX11_addLetter_73 : decode cX11_addLetter 73 = .ok (.bipush 9, 2) := by decide +kernel
theorem dX11_addLetter_75 : decode cX11_addLetter 75 = .ok (.iaload, 1) := by decide +kernel
theorem dX11_addLetter_76 : decode cX11_addLetter 76 = .ok (.iload_n 3, 1) := by decide +kernel
theorem dX11_addLetter_77 : decode cX11_addLetter 77 = .ok (.iadd, 1) := by decide +kernel
theorem dX11_addLetter_78 : decode cX11_addLetter 78 = .ok (.iload 4, 2) := by decide +kernel
theorem dX11_addLetter_80 : decode cX11_addLetter 80 = .ok (.iload 5, 2) := by decide +kernel
theorem dX11_addLetter_82 : decode cX11_addLetter 82 = .ok (.invokevirtual 177, 3) := by decide +kernel
theorem dX11_addLetter_85 : decode cX11_addLetter 85 = .ok (.ireturn, 1) := by decide +kernel
theorem dX11_pass_0 : decode cX11_pass 0 = .ok (.iload_n 1, 1) := by decide +kernel
theorem dX11_pass_1 : decode cX11_pass 1 = .ok (.iconst 1, 1) := by decide +kernel
theorem dX11_pass_2 : decode cX11_pass 2 = .ok (.sipush 300, 3) := by decide +kernel
theorem dX11_pass_5 : decode cX11_pass 5 = .ok (.invokestatic 79, 3) := by decide +kernel
theorem dX11_pass_8 : decode cX11_pass 8 = .ok (.istore_n 2, 1) := by decide +kernel
theorem dX11_pass_9 : decode cX11_pass 9 = .ok (.aload_n 0, 1) := by decide +kernel
theorem dX11_pass_10 : decode cX11_pass 10 = .ok (.iload_n 2, 1) := by decide +kernel
theorem dX11_pass_11 : decode cX11_pass 11 = .ok (.ifCond .ne 7, 3) := by decide +kernel
theorem dX11_pass_14 : decode cX11_pass 14 = .ok (.iconst 1, 1) := by decide +kernel
theorem dX11_pass_15 : decode cX11_pass 15 = .ok (.goto 4, 3) := by decide +kernel
theorem dX11_pass_18 : decode cX11_pass 18 = .ok (.iconst 0, 1) := by decide +kernel
theorem dX11_pass_19 : decode cX11_pass 19 = .ok (.iload_n 2, 1) := by decide +kernel
theorem dX11_pass_20 : decode cX11_pass 20 = .ok (.ifCond .eq 22, 3) := by decide +kernel
theorem dX11_pass_23 : decode cX11_pass 23 = .ok (.aload_n 0, 1) := by decide +kernel
theorem dX11_pass_24 : decode cX11_pass 24 = .ok (.getfield 13, 3) := by decide +kernel
theorem dX11_pass_27 : decode cX11_pass 27 = .ok (.bipush 9, 2) := by decide +kernel
theorem dX11_pass_29 : decode cX11_pass 29 = .ok (.iaload, 1) := by decide +kernel
theorem dX11_pass_30 : decode cX11_pass 30 = .ok (.iload_n 1, 1) := by decide +kernel
theorem dX11_pass_31 : decode cX11_pass 31 = .ok (.iadd, 1) := by decide +kernel
theorem dX11_pass_32 : decode cX11_pass 32 = .ok (.sipush 2000, 3) := by decide +kernel
theorem dX11_pass_35 : decode cX11_pass 35 = .ok (.if_icmp .le 7, 3) := by decide +kernel
theorem dX11_pass_38 : decode cX11_pass 38 = .ok (.iconst 1, 1) := by decide +kernel
theorem dX11_pass_39 : decode cX11_pass 39 = .ok (.goto 4, 3) := by decide +kernel
theorem dX11_pass_42 : decode cX11_pass 42 = .ok (.iconst 0, 1) := by decide +kernel
theorem dX11_pass_43 : decode cX11_pass 43 = .ok (.iconst 0, 1) := by decide +kernel
theorem dX11_pass_44 : decode cX11_pass 44 = .ok (.invokevirtual 146, 3) := by decide +kernel
theorem dX11_pass_47 : decode cX11_pass 47 = .ok (.ifCond .eq 5, 3) := by decide +kernel
theorem dX11_pass_50 : decode cX11_pass 50 = .ok (.iconst 0, 1) := by decide +kernel
theorem dX11_pass_51 : decode cX11_pass 51 = .ok (.ireturn, 1) := by decide +kernel
theorem dX11_pass_52 : decode cX11_pass 52 = .ok (.aload_n 0, 1) := by decide +kernel
theorem dX11_pass_53 : decode cX11_pass 53 = .ok (.iconst 0, 1) := by decide +kernel
theorem dX11_pass_54 : decode cX11_pass 54 = .ok (.invokevirtual 243, 3) := by decide +kernel
theorem dX11_pass_57 : decode cX11_pass 57 = .ok (.aload_n 0, 1) := by decide +kernel
theorem dX11_pass_58 : decode cX11_pass 58 = .ok (.iload_n 1, 1) := by decide +kernel
theorem dX11_pass_59 : decode cX11_pass 59 = .ok (.invokevirtual 234, 3) := by decide +kernel
theorem dX11_pass_62 : decode cX11_pass 62 = .ok (.ireturn, 1) := by decide +kernel
theorem dX11_setPolicy_0 : decode cX11_setPolicy 0 = .ok (.aload_n 0, 1) := by decide +kernel
theorem dX11_setPolicy_1 : decode cX11_setPolicy 1 = .ok (.iload_n 1, 1) := by decide +kernel
theorem dX11_setPolicy_2 : decode cX11_setPolicy 2 = .ok (.iconst 0, 1) := by decide +kernel
theorem dX11_setPolicy_3 : decode cX11_setPolicy 3 = .ok (.iconst 4, 1) := by decide +kernel
theorem dX11_setPolicy_4 : decode cX11_setPolicy 4 = .ok (.invokestatic 79, 3) := by decide +kernel
theorem dX11_setPolicy_7 : decode cX11_setPolicy 7 = .ok (.ifCond .ne 7, 3) := by decide +kernel
theorem dX11_setPolicy_10 : decode cX11_setPolicy 10 = .ok (.iconst 1, 1) := by decide +kernel
theorem dX11_setPolicy_11 : decode cX11_setPolicy 11 = .ok (.goto 4, 3) := by decide +kernel
theorem dX11_setPolicy_14 : decode cX11_setPolicy 14 = .ok (.iconst 0, 1) := by decide +kernel
theorem dX11_setPolicy_15 : decode cX11_setPolicy 15 = .ok (.iconst 0, 1) := by decide +kernel
theorem dX11_setPolicy_16 : decode cX11_setPolicy 16 = .ok (.iconst 0, 1) := by decide +kernel
theorem dX11_setPolicy_17 : decode cX11_setPolicy 17 = .ok (.invokevirtual 146, 3) := by decide +kernel
theorem dX11_setPolicy_20 : decode cX11_setPolicy 20 = .ok (.ifCond .eq 5, 3) := by decide +kernel
theorem dX11_setPolicy_23 : decode cX11_setPolicy 23 = .ok (.iconst 0, 1) := by decide +kernel
theorem dX11_setPolicy_24 : decode cX11_setPolicy 24 = .ok (.ireturn, 1) := by decide +kernel
theorem dX11_setPolicy_25 : decode cX11_setPolicy 25 = .ok (.aload_n 0, 1) := by decide +kernel
theorem dX11_setPolicy_26 : decode cX11_setPolicy 26 = .ok (.iconst 0, 1) := by decide +kernel
theorem dX11_setPolicy_27 : decode cX11_setPolicy 27 = .ok (.invokevirtual 243, 3) := by decide +kernel
theorem dX11_setPolicy_30 : decode cX11_setPolicy 30 = .ok (.aload_n 0, 1) := by decide +kernel
theorem dX11_setPolicy_31 : decode cX11_setPolicy 31 = .ok (.getfield 13, 3) := by decide +kernel
theorem dX11_setPolicy_34 : decode cX11_setPolicy 34 = .ok (.iconst 0, 1) := by decide +kernel
theorem dX11_setPolicy_35 : decode cX11_setPolicy 35 = .ok (.iaload, 1) := by decide +kernel
theorem dX11_setPolicy_36 : decode cX11_setPolicy 36 = .ok (.istore_n 2, 1) := by decide +kernel
theorem dX11_setPolicy_37 : decode cX11_setPolicy 37 = .ok (.aload_n 0, 1) := by decide +kernel
theorem dX11_setPolicy_38 : decode cX11_setPolicy 38 = .ok (.getfield 13, 3) := by decide +kernel
theorem dX11_setPolicy_41 : decode cX11_setPolicy 41 = .ok (.iconst 0, 1) := by decide +kernel
theorem dX11_setPolicy_42 : decode cX11_setPolicy 42 = .ok (.iload_n 1, 1) := by decide +kernel
theorem dX11_setPolicy_43 : decode cX11_setPolicy 43 = .ok (.iastore, 1) := by decide +kernel
theorem dX11_setPolicy_44 : decode cX11_setPolicy 44 = .ok (.iload_n 2, 1) := by decide +kernel
theorem dX11_setPolicy_45 : decode cX11_setPolicy 45 = .ok (.ireturn, 1) := by decide +kernel
theorem dX11_change_0 : decode cX11_change 0 = .ok (.aload_n 0, 1) := by decide +kernel
theorem dX11_change_1 : decode cX11_change 1 = .ok (.aload_n 0, 1) := by decide +kernel
theorem dX11_change_2 : decode cX11_change 2 = .ok (.iload_n 1, 1) := by decide +kernel
theorem dX11_change_3 : decode cX11_change 3 = .ok (.invokevirtual 231, 3) := by decide +kernel
theorem dX11_change_6 : decode cX11_change 6 = .ok (.ifCond .ne 7, 3) := by decide +kernel
theorem dX11_change_9 : decode cX11_change 9 = .ok (.iconst 1, 1) := by decide +kernel
theorem dX11_change_10 : decode cX11_change 10 = .ok (.goto 4, 3) := by decide +kernel
theorem dX11_change_13 : decode cX11_change 13 = .ok (.iconst 0, 1) := by decide +kernel
theorem dX11_change_14 : decode cX11_change 14 = .ok (.iload_n 3, 1) := by decide +kernel
theorem dX11_change_15 : decode cX11_change 15 = .ok (.iload 4, 2) := by decide +kernel
theorem dX11_change_17 : decode cX11_change 17 = .ok (.iload 5, 2) := by decide +kernel
theorem dX11_change_19 : decode cX11_change 19 = .ok (.invokestatic 79, 3) := by decide +kernel
theorem dX11_change_22 : decode cX11_change 22 = .ok (.ifCond .ne 7, 3) := by decide +kernel
theorem dX11_change_25 : decode cX11_change 25 = .ok (.iconst 1, 1) := by decide +kernel
theorem dX11_change_26 : decode cX11_change 26 = .ok (.goto 4, 3) := by decide +kernel
theorem dX11_change_29 : decode cX11_change 29 = .ok (.iconst 0, 1) := by decide +kernel
theorem dX11_change_30 : decode cX11_change 30 = .ok (.iconst 0, 1) := by decide +kernel
theorem dX11_change_31 : decode cX11_change 31 = .ok (.invokevirtual 146, 3) := by decide +kernel
theorem dX11_change_34 : decode cX11_change 34 = .ok (.ifCond .eq 5, 3) := by decide +kernel
theorem dX11_change_37 : decode cX11_change 37 = .ok (.iconst 0, 1) := by decide +kernel
theorem dX11_change_38 : decode cX11_change 38 = .ok (.ireturn, 1) := by decide +kernel
theorem dX11_change_39 : decode cX11_change 39 = .ok (.aload_n 0, 1) := by decide +kernel
theorem dX11_change_40 : decode cX11_change 40 = .ok (.iconst 0, 1) := by decide +kernel
theorem dX11_change_41 : decode cX11_change 41 = .ok (.invokevirtual 243, 3) := by decide +kernel
theorem dX11_change_44 : decode cX11_change 44 = .ok (.aload_n 0, 1) := by decide +kernel
theorem dX11_change_45 : decode cX11_change 45 = .ok (.iload_n 1, 1) := by decide +kernel
theorem dX11_change_46 : decode cX11_change 46 = .ok (.iload_n 2, 1) := by decide +kernel
theorem dX11_change_47 : decode cX11_change 47 = .ok (.invokevirtual 87, 3) := by decide +kernel
theorem dX11_change_50 : decode cX11_change 50 = .ok (.istore 6, 2) := by decide +kernel
theorem dX11_change_52 : decode cX11_change 52 = .ok (.aload_n 0, 1) := by decide +kernel
theorem dX11_change_53 : decode cX11_change 53 = .ok (.iload_n 1, 1) := by decide +kernel
theorem dX11_change_54 : decode cX11_change 54 = .ok (.iload_n 2, 1) := by decide +kernel
theorem dX11_change_55 : decode cX11_change 55 = .ok (.iload_n 3, 1) := by decide +kernel
theorem dX11_change_56 : decode cX11_change 56 = .ok (.invokevirtual 120, 3) := by decide +kernel
theorem dX11_change_59 : decode cX11_change 59 = .ok (.iload 6, 2) := by decide +kernel
theorem dX11_change_61 : decode cX11_change 61 = .ok (.ireturn, 1) := by decide +kernel
theorem dX11_setDeadline_0 : decode cX11_setDeadline 0 = .ok (.aload_n 0, 1) := by decide +kernel
theorem dX11_setDeadline_1 : decode cX11_setDeadline 1 = .ok (.iload_n 1, 1) := by decide +kernel
theorem dX11_setDeadline_2 : decode cX11_setDeadline 2 = .ok (.iconst 3, 1) := by decide +kernel
theorem dX11_setDeadline_3 : decode cX11_setDeadline 3 = .ok (.iload_n 2, 1) := by decide +kernel
theorem dX11_setDeadline_4 : decode cX11_setDeadline 4 = .ok (.iconst 1, 1) := by decide +kernel
theorem dX11_setDeadline_5 : decode cX11_setDeadline 5 = .ok (.sipush 999, 3) := by decide +kernel
theorem dX11_setDeadline_8 : decode cX11_setDeadline 8 = .ok (.invokevirtual 285, 3) := by decide +kernel
theorem dX11_setDeadline_11 : decode cX11_setDeadline 11 = .ok (.ireturn, 1) := by decide +kernel
theorem dX11_setPriority_0 : decode cX11_setPriority 0 = .ok (.aload_n 0, 1) := by decide +kernel
theorem dX11_setPriority_1 : decode cX11_setPriority 1 = .ok (.iload_n 1, 1) := by decide +kernel
theorem dX11_setPriority_2 : decode cX11_setPriority 2 = .ok (.iconst 4, 1) := by decide +kernel
theorem dX11_setPriority_3 : decode cX11_setPriority 3 = .ok (.iload_n 2, 1) := by decide +kernel
theorem dX11_setPriority_4 : decode cX11_setPriority 4 = .ok (.iconst 0, 1) := by decide +kernel
theorem dX11_setPriority_5 : decode cX11_setPriority 5 = .ok (.bipush 9, 2) := by decide +kernel
theorem dX11_setPriority_7 : decode cX11_setPriority 7 = .ok (.invokevirtual 285, 3) := by decide +kernel
theorem dX11_setPriority_10 : decode cX11_setPriority 10 = .ok (.ireturn, 1) := by decide +kernel
theorem dX11_extend_0 : decode cX11_extend 0 = .ok (.aload_n 0, 1) := by decide +kernel
theorem dX11_extend_1 : decode cX11_extend 1 = .ok (.iload_n 1, 1) := by decide +kernel
theorem dX11_extend_2 : decode cX11_extend 2 = .ok (.invokevirtual 231, 3) := by decide +kernel
theorem dX11_extend_5 : decode cX11_extend 5 = .ok (.ifCond .eq 17, 3) := by decide +kernel
theorem dX11_extend_8 : decode cX11_extend 8 = .ok (.iload_n 2, 1) := by decide +kernel
theorem dX11_extend_9 : decode cX11_extend 9 = .ok (.iconst 1, 1) := by decide +kernel
theorem dX11_extend_10 : decode cX11_extend 10 = .ok (.bipush 29, 2) := by decide +kernel
theorem dX11_extend_12 : decode cX11_extend 12 = .ok (.invokestatic 79, 3) := by decide +kernel
theorem dX11_extend_15 : decode cX11_extend 15 = .ok (.ifCond .eq 7, 3) := by decide +kernel
theorem dX11_extend_18 : decode cX11_extend 18 = .ok (.iconst 1, 1) := by decide +kernel
theorem dX11_extend_19 : decode cX11_extend 19 = .ok (.goto 4, 3) := by decide +kernel
theorem dX11_extend_22 : decode cX11_extend 22 = .ok (.iconst 0, 1) := by decide +kernel
theorem dX11_extend_23 : decode cX11_extend 23 = .ok (.istore_n 3, 1) := by decide +kernel
theorem dX11_extend_24 : decode cX11_extend 24 = .ok (.aload_n 0, 1) := by decide +kernel
theorem dX11_extend_25 : decode cX11_extend 25 = .ok (.aload_n 0, 1) := by decide +kernel
theorem dX11_extend_26 : decode cX11_extend 26 = .ok (.iload_n 1, 1) := by decide +kernel
theorem dX11_extend_27 : decode cX11_extend 27 = .ok (.invokevirtual 231, 3) := by decide +kernel
theorem dX11_extend_30 : decode cX11_extend 30 = .ok (.ifCond .ne 7, 3) := by decide +kernel
theorem dX11_extend_33 : decode cX11_extend 33 = .ok (.iconst 1, 1) := by decide +kernel
theorem dX11_extend_34 : decode cX11_extend 34 = .ok (.goto 4, 3) := by decide +kernel
theorem dX11_extend_37 : decode cX11_extend 37 = .ok (.iconst 0, 1) := by decide +kernel
theorem dX11_extend_38 : decode cX11_extend 38 = .ok (.iload_n 2, 1) := by decide +kernel
theorem dX11_extend_39 : decode cX11_extend 39 = .ok (.iconst 1, 1) := by decide +kernel
theorem dX11_extend_40 : decode cX11_extend 40 = .ok (.bipush 29, 2) := by decide +kernel
theorem dX11_extend_42 : decode cX11_extend 42 = .ok (.invokestatic 79, 3) := by decide +kernel
theorem dX11_extend_45 : decode cX11_extend 45 = .ok (.ifCond .ne 7, 3) := by decide +kernel
theorem dX11_extend_48 : decode cX11_extend 48 = .ok (.iconst 1, 1) := by decide +kernel
theorem dX11_extend_49 : decode cX11_extend 49 = .ok (.goto 4, 3) := by decide +kernel
theorem dX11_extend_52 : decode cX11_extend 52 = .ok (.iconst 0, 1) := by decide +kernel
theorem dX11_extend_53 : decode cX11_extend 53 = .ok (.iload_n 3, 1) := by decide +kernel
theorem dX11_extend_54 : decode cX11_extend 54 = .ok (.ifCond .eq 28, 3) := by decide +kernel
theorem dX11_extend_57 : decode cX11_extend 57 = .ok (.aload_n 0, 1) := by decide +kernel
theorem dX11_extend_58 : decode cX11_extend 58 = .ok (.iload_n 1, 1) := by decide +kernel
theorem dX11_extend_59 : decode cX11_extend 59 = .ok (.invokevirtual 95, 3) := by decide +kernel
theorem dX11_extend_62 : decode cX11_extend 62 = .ok (.ifCond .ne 16, 3) := by decide +kernel
theorem dX11_extend_65 : decode cX11_extend 65 = .ok (.aload_n 0, 1) := by decide +kernel
theorem dX11_extend_66 : decode cX11_extend 66 = .ok (.iload_n 1, 1) := by decide +kernel
theorem dX11_extend_67 : decode cX11_extend 67 = .ok (.iconst 1, 1) := by decide +kernel
theorem dX11_extend_68 : decode cX11_extend 68 = .ok (.invokevirtual 87, 3) := by decide +kernel
theorem dX11_extend_71 : decode cX11_extend 71 = .ok (.iload_n 2, 1) := by decide +kernel
theorem dX11_extend_72 : decode cX11_extend 72 = .ok (.iadd, 1) := by decide +kernel
theorem dX11_extend_73 : decode cX11_extend 73 = .ok (.bipush 30, 2) := by decide +kernel
theorem dX11_extend_75 : decode cX11_extend 75 = .ok (.if_icmp .le 7, 3) := by decide +kernel
theorem dX11_extend_78 : decode cX11_extend 78 = .ok (.iconst 1, 1) := by decide +kernel
theorem dX11_extend_79 : decode cX11_extend 79 = .ok (.goto 4, 3) := by decide +kernel
theorem dX11_extend_82 : decode cX11_extend 82 = .ok (.iconst 0, 1) := by decide +kernel
theorem dX11_extend_83 : decode cX11_extend 83 = .ok (.invokevirtual 146, 3) := by decide +kernel
theorem dX11_extend_86 : decode cX11_extend 86 = .ok (.ifCond .eq 5, 3) := by decide +kernel
theorem dX11_extend_89 : decode cX11_extend 89 = .ok (.iconst 0, 1) := by decide +kernel
theorem dX11_extend_90 : decode cX11_extend 90 = .ok (.ireturn, 1) := by decide +kernel
theorem dX11_extend_91 : decode cX11_extend 91 = .ok (.aload_n 0, 1) := by decide +kernel
theorem dX11_extend_92 : decode cX11_extend 92 = .ok (.iconst 0, 1) := by decide +kernel
theorem dX11_extend_93 : decode cX11_extend 93 = .ok (.invokevirtual 243, 3) := by decide +kernel
theorem dX11_extend_96 : decode cX11_extend 96 = .ok (.aload_n 0, 1) := by decide +kernel
theorem dX11_extend_97 : decode cX11_extend 97 = .ok (.iload_n 1, 1) := by decide +kernel
theorem dX11_extend_98 : decode cX11_extend 98 = .ok (.iconst 1, 1) := by decide +kernel
theorem dX11_extend_99 : decode cX11_extend 99 = .ok (.aload_n 0, 1) := by decide +kernel
theorem dX11_extend_100 : decode cX11_extend 100 = .ok (.iload_n 1, 1) := by decide +kernel
theorem dX11_extend_101 : decode cX11_extend 101 = .ok (.iconst 1, 1) := by decide +kernel
theorem dX11_extend_102 : decode cX11_extend 102 = .ok (.invokevirtual 87, 3) := by decide +kernel
theorem dX11_extend_105 : decode cX11_extend 105 = .ok (.iload_n 2, 1) := by decide +kernel
theorem dX11_extend_106 : decode cX11_extend 106 = .ok (.iadd, 1) := by decide +kernel
theorem dX11_extend_107 : decode cX11_extend 107 = .ok (.invokevirtual 120, 3) := by decide +kernel
theorem dX11_extend_110 : decode cX11_extend 110 = .ok (.aload_n 0, 1) := by decide +kernel
theorem dX11_extend_111 : decode cX11_extend 111 = .ok (.iload_n 1, 1) := by decide +kernel
theorem dX11_extend_112 : decode cX11_extend 112 = .ok (.iconst 5, 1) := by decide +kernel
theorem dX11_extend_113 : decode cX11_extend 113 = .ok (.aload_n 0, 1) := by decide +kernel
theorem dX11_extend_114 : decode cX11_extend 114 = .ok (.iload_n 1, 1) := by decide +kernel
theorem dX11_extend_115 : decode cX11_extend 115 = .ok (.iconst 5, 1) := by decide +kernel
theorem dX11_extend_116 : decode cX11_extend 116 = .ok (.invokevirtual 87, 3) := by decide +kernel
theorem dX11_extend_119 : decode cX11_extend 119 = .ok (.iload_n 2, 1) := by decide +kernel
theorem dX11_extend_120 : decode cX11_extend 120 = .ok (.iadd, 1) := by decide +kernel
theorem dX11_extend_121 : decode cX11_extend 121 = .ok (.invokevirtual 120, 3) := by decide +kernel
theorem dX11_extend_124 : decode cX11_extend 124 = .ok (.aload_n 0, 1) := by decide +kernel
theorem dX11_extend_125 : decode cX11_extend 125 = .ok (.iload_n 1, 1) := by decide +kernel
theorem dX11_extend_126 : decode cX11_extend 126 = .ok (.iconst 5, 1) := by decide +kernel
theorem dX11_extend_127 : decode cX11_extend 127 = .ok (.invokevirtual 87, 3) := by decide +kernel
theorem dX11_extend_130 : decode cX11_extend 130 = .ok (.ireturn, 1) := by decide +kernel
theorem dX11_discard_0 : decode cX11_discard 0 = .ok (.aload_n 0, 1) := by decide +kernel
theorem dX11_discard_1 : decode cX11_discard 1 = .ok (.iload_n 1, 1) := by decide +kernel
theorem dX11_discard_2 : decode cX11_discard 2 = .ok (.invokevirtual 231, 3) := by decide +kernel
theorem dX11_discard_5 : decode cX11_discard 5 = .ok (.istore_n 2, 1) := by decide +kernel
theorem dX11_discard_6 : decode cX11_discard 6 = .ok (.aload_n 0, 1) := by decide +kernel
theorem dX11_discard_7 : decode cX11_discard 7 = .ok (.iload_n 2, 1) := by decide +kernel
theorem dX11_discard_8 : decode cX11_discard 8 = .ok (.ifCond .ne 7, 3) := by decide +kernel
theorem dX11_discard_11 : decode cX11_discard 11 = .ok (.iconst 1, 1) := by decide +kernel
theorem dX11_discard_12 : decode cX11_discard 12 = .ok (.goto 4, 3) := by decide +kernel
theorem dX11_discard_15 : decode cX11_discard 15 = .ok (.iconst 0, 1) := by decide +kernel
theorem dX11_discard_16 : decode cX11_discard 16 = .ok (.iload_n 2, 1) := by decide +kernel
theorem dX11_discard_17 : decode cX11_discard 17 = .ok (.ifCond .eq 15, 3) := by decide +kernel
theorem dX11_discard_20 : decode cX11_discard 20 = .ok (.aload_n 0, 1) := by decide +kernel
theorem dX11_discard_21 : decode cX11_discard 21 = .ok (.iload_n 1, 1) := by decide +kernel
theorem dX11_discard_22 : decode cX11_discard 22 = .ok (.invokevirtual 105, 3) := by decide +kernel
theorem dX11_discard_25 : decode cX11_discard 25 = .ok (.ifCond .ne 7, 3) := by decide +kernel
theorem dX11_discard_28 : decode cX11_discard 28 = .ok (.iconst 1, 1) := by decide +kernel
theorem dX11_discard_29 : decode cX11_discard 29 = .ok (.goto 4, 3) := by decide +kernel
theorem dX11_discard_32 : decode cX11_discard 32 = .ok (.iconst 0, 1) := by decide +kernel
theorem dX11_discard_33 : decode cX11_discard 33 = .ok (.iconst 0, 1) := by decide +kernel
theorem dX11_discard_34 : decode cX11_discard 34 = .ok (.invokevirtual 146, 3) := by decide +kernel
theorem dX11_discard_37 : decode cX11_discard 37 = .ok (.ifCond .eq 5, 3) := by decide +kernel
theorem dX11_discard_40 : decode cX11_discard 40 = .ok (.iconst 0, 1) := by decide +kernel
theorem dX11_discard_41 : decode cX11_discard 41 = .ok (.ireturn, 1) := by decide +kernel
theorem dX11_discard_42 : decode cX11_discard 42 = .ok (.aload_n 0, 1) := by decide +kernel
theorem dX11_discard_43 : decode cX11_discard 43 = .ok (.iconst 0, 1) := by decide +kernel
theorem dX11_discard_44 : decode cX11_discard 44 = .ok (.invokevirtual 243, 3) := by decide +kernel
theorem dX11_discard_47 : decode cX11_discard 47 = .ok (.aload_n 0, 1) := by decide +kernel
theorem dX11_discard_48 : decode cX11_discard 48 = .ok (.iload_n 1, 1) := by decide +kernel
theorem dX11_discard_49 : decode cX11_discard 49 = .ok (.invokevirtual 237, 3) := by decide +kernel
theorem dX11_discard_52 : decode cX11_discard 52 = .ok (.ireturn, 1) := by decide +kernel
theorem dX11_undo_0 : decode cX11_undo 0 = .ok (.aload_n 0, 1) := by decide +kernel
theorem dX11_undo_1 : decode cX11_undo 1 = .ok (.aload_n 0, 1) := by decide +kernel
theorem dX11_undo_2 : decode cX11_undo 2 = .ok (.getfield 21, 3) := by decide +kernel
theorem dX11_undo_5 : decode cX11_undo 5 = .ok (.ifCond .ne 7, 3) := by decide +kernel
theorem dX11_undo_8 : decode cX11_undo 8 = .ok (.iconst 1, 1) := by decide +kernel
theorem dX11_undo_9 : decode cX11_undo 9 = .ok (.goto 4, 3) := by decide +kernel
theorem dX11_undo_12 : decode cX11_undo 12 = .ok (.iconst 0, 1) := by decide +kernel
theorem dX11_undo_13 : decode cX11_undo 13 = .ok (.iconst 0, 1) := by decide +kernel
theorem dX11_undo_14 : decode cX11_undo 14 = .ok (.iconst 0, 1) := by decide +kernel
theorem dX11_undo_15 : decode cX11_undo 15 = .ok (.invokevirtual 146, 3) := by decide +kernel
theorem dX11_undo_18 : decode cX11_undo 18 = .ok (.ifCond .eq 5, 3) := by decide +kernel
theorem dX11_undo_21 : decode cX11_undo 21 = .ok (.iconst 0, 1) := by decide +kernel
theorem dX11_undo_22 : decode cX11_undo 22 = .ok (.ireturn, 1) := by decide +kernel
theorem dX11_undo_23 : decode cX11_undo 23 = .ok (.aload_n 0, 1) := by decide +kernel
theorem dX11_undo_24 : decode cX11_undo 24 = .ok (.aload_n 0, 1) := by decide +kernel
theorem dX11_undo_25 : decode cX11_undo 25 = .ok (.getfield 21, 3) := by decide +kernel
theorem dX11_undo_28 : decode cX11_undo 28 = .ok (.iconst 0, 1) := by decide +kernel
theorem dX11_undo_29 : decode cX11_undo 29 = .ok (.invokevirtual 83, 3) := by decide +kernel
theorem dX11_undo_32 : decode cX11_undo 32 = .ok (.aload_n 0, 1) := by decide +kernel
theorem dX11_undo_33 : decode cX11_undo 33 = .ok (.dup, 1) := by decide +kernel
theorem dX11_undo_34 : decode cX11_undo 34 = .ok (.getfield 21, 3) := by decide +kernel
theorem dX11_undo_37 : decode cX11_undo 37 = .ok (.iconst 1, 1) := by decide +kernel
theorem dX11_undo_38 : decode cX11_undo 38 = .ok (.isub, 1) := by decide +kernel
theorem dX11_undo_39 : decode cX11_undo 39 = .ok (.putfield 21, 3) := by decide +kernel
theorem dX11_undo_42 : decode cX11_undo 42 = .ok (.aload_n 0, 1) := by decide +kernel
theorem dX11_undo_43 : decode cX11_undo 43 = .ok (.getfield 21, 3) := by decide +kernel
theorem dX11_undo_46 : decode cX11_undo 46 = .ok (.ireturn, 1) := by decide +kernel
theorem dX11_save_0 : decode cX11_save 0 = .ok (.aload_n 0, 1) := by decide +kernel
theorem dX11_save_1 : decode cX11_save 1 = .ok (.iload_n 1, 1) := by decide +kernel
theorem dX11_save_2 : decode cX11_save 2 = .ok (.iconst 0, 1) := by decide +kernel
theorem dX11_save_3 : decode cX11_save 3 = .ok (.iconst 1, 1) := by decide +kernel
theorem dX11_save_4 : decode cX11_save 4 = .ok (.invokestatic 79, 3) := by decide +kernel
theorem dX11_save_7 : decode cX11_save 7 = .ok (.ifCond .ne 7, 3) := by decide +kernel
theorem dX11_save_10 : decode cX11_save 10 = .ok (.iconst 1, 1) := by decide +kernel
theorem dX11_save_11 : decode cX11_save 11 = .ok (.goto 4, 3) := by decide +kernel
theorem dX11_save_14 : decode cX11_save 14 = .ok (.iconst 0, 1) := by decide +kernel
theorem dX11_save_15 : decode cX11_save 15 = .ok (.iconst 0, 1) := by decide +kernel
theorem dX11_save_16 : decode cX11_save 16 = .ok (.iconst 0, 1) := by decide +kernel
theorem dX11_save_17 : decode cX11_save 17 = .ok (.invokevirtual 146, 3) := by decide +kernel
theorem dX11_save_20 : decode cX11_save 20 = .ok (.ifCond .eq 5, 3) := by decide +kernel
theorem dX11_save_23 : decode cX11_save 23 = .ok (.iconst 0, 1) := by decide +kernel
theorem dX11_save_24 : decode cX11_save 24 = .ok (.ireturn, 1) := by decide +kernel
theorem dX11_save_25 : decode cX11_save 25 = .ok (.aload_n 0, 1) := by decide +kernel
theorem dX11_save_26 : decode cX11_save 26 = .ok (.iconst 0, 1) := by decide +kernel
theorem dX11_save_27 : decode cX11_save 27 = .ok (.bipush 7, 2) := by decide +kernel
theorem dX11_save_29 : decode cX11_save 29 = .ok (.iload_n 1, 1) := by decide +kernel
theorem dX11_save_30 : decode cX11_save 30 = .ok (.iadd, 1) := by decide +kernel
theorem dX11_save_31 : decode cX11_save 31 = .ok (.invokevirtual 83, 3) := by decide +kernel
theorem dX11_save_34 : decode cX11_save 34 = .ok (.aload_n 0, 1) := by decide +kernel
theorem dX11_save_35 : decode cX11_save 35 = .ok (.getfield 17, 3) := by decide +kernel
theorem dX11_save_38 : decode cX11_save 38 = .ok (.iload_n 1, 1) := by decide +kernel
theorem dX11_save_39 : decode cX11_save 39 = .ok (.iconst 1, 1) := by decide +kernel
theorem dX11_save_40 : decode cX11_save 40 = .ok (.bastore, 1) := by decide +kernel
theorem dX11_save_41 : decode cX11_save 41 = .ok (.aload_n 0, 1) := by decide +kernel
theorem dX11_save_42 : decode cX11_save 42 = .ok (.getfield 13, 3) := by decide +kernel
theorem dX11_save_45 : decode cX11_save 45 = .ok (.bipush 9, 2) := by decide +kernel
theorem dX11_save_47 : decode cX11_save 47 = .ok (.iaload, 1) := by decide +kernel
theorem dX11_save_48 : decode cX11_save 48 = .ok (.ireturn, 1) := by decide +kernel
theorem dX11_restore_0 : decode cX11_restore 0 = .ok (.iload_n 1, 1) := by decide +kernel
theorem dX11_restore_1 : decode cX11_restore 1 = .ok (.iconst 0, 1) := by decide +kernel
theorem dX11_restore_2 : decode cX11_restore 2 = .ok (.iconst 1, 1) := by decide +kernel
theorem dX11_restore_3 : decode cX11_restore 3 = .ok (.invokestatic 79, 3) := by decide +kernel
theorem dX11_restore_6 : decode cX11_restore 6 = .ok (.istore_n 2, 1) := by decide +kernel
theorem dX11_restore_7 : decode cX11_restore 7 = .ok (.aload_n 0, 1) := by decide +kernel
theorem dX11_restore_8 : decode cX11_restore 8 = .ok (.iload_n 2, 1) := by decide +kernel
theorem dX11_restore_9 : decode cX11_restore 9 = .ok (.ifCond .ne 7, 3) := by decide +kernel
theorem dX11_restore_12 : decode cX11_restore 12 = .ok (.iconst 1, 1) := by decide +kernel
theorem dX11_restore_13 : decode cX11_restore 13 = .ok (.goto 4, 3) := by decide +kernel
theorem dX11_restore_16 : decode cX11_restore 16 = .ok (.iconst 0, 1) := by decide +kernel
theorem dX11_restore_17 : decode cX11_restore 17 = .ok (.iload_n 2, 1) := by decide +kernel
theorem dX11_restore_18 : decode cX11_restore 18 = .ok (.ifCond .eq 16, 3) := by decide +kernel
theorem dX11_restore_21 : decode cX11_restore 21 = .ok (.aload_n 0, 1) := by decide +kernel
theorem dX11_restore_22 : decode cX11_restore 22 = .ok (.getfield 17, 3) := by decide +kernel
theorem dX11_restore_25 : decode cX11_restore 25 = .ok (.iload_n 1, 1) := by decide +kernel
theorem dX11_restore_26 : decode cX11_restore 26 = .ok (.baload, 1) := by decide +kernel
theorem dX11_restore_27 : decode cX11_restore 27 = .ok (.ifCond .ne 7, 3) := by decide +kernel
theorem dX11_restore_30 : decode cX11_restore 30 = .ok (.iconst 1, 1) := by decide +kernel
theorem dX11_restore_31 : decode cX11_restore 31 = .ok (.goto 4, 3) := by decide +kernel
theorem dX11_restore_34 : decode cX11_restore 34 = .ok (.iconst 0, 1) := by decide +kernel
theorem dX11_restore_35 : decode cX11_restore 35 = .ok (.iconst 0, 1) := by decide +kernel
theorem dX11_restore_36 : decode cX11_restore 36 = .ok (.invokevirtual 146, 3) := by decide +kernel
theorem dX11_restore_39 : decode cX11_restore 39 = .ok (.ifCond .eq 5, 3) := by decide +kernel
theorem dX11_restore_42 : decode cX11_restore 42 = .ok (.iconst 0, 1) := by decide +kernel
theorem dX11_restore_43 : decode cX11_restore 43 = .ok (.ireturn, 1) := by decide +kernel
theorem dX11_restore_44 : decode cX11_restore 44 = .ok (.aload_n 0, 1) := by decide +kernel
theorem dX11_restore_45 : decode cX11_restore 45 = .ok (.bipush 7, 2) := by decide +kernel
theorem dX11_restore_47 : decode cX11_restore 47 = .ok (.iload_n 1, 1) := by decide +kernel
theorem dX11_restore_48 : decode cX11_restore 48 = .ok (.iadd, 1) := by decide +kernel
theorem dX11_restore_49 : decode cX11_restore 49 = .ok (.iconst 0, 1) := by decide +kernel
theorem dX11_restore_50 : decode cX11_restore 50 = .ok (.invokevirtual 83, 3) := by decide +kernel
theorem dX11_restore_53 : decode cX11_restore 53 = .ok (.aload_n 0, 1) := by decide +kernel
theorem dX11_restore_54 : decode cX11_restore 54 = .ok (.iconst 0, 1) := by decide +kernel
theorem dX11_restore_55 : decode cX11_restore 55 = .ok (.putfield 21, 3) := by decide +kernel
theorem dX11_restore_58 : decode cX11_restore 58 = .ok (.aload_n 0, 1) := by decide +kernel
theorem dX11_restore_59 : decode cX11_restore 59 = .ok (.getfield 13, 3) := by decide +kernel
theorem dX11_restore_62 : decode cX11_restore 62 = .ok (.bipush 9, 2) := by decide +kernel
theorem dX11_restore_64 : decode cX11_restore 64 = .ok (.iaload, 1) := by decide +kernel
theorem dX11_restore_65 : decode cX11_restore 65 = .ok (.ireturn, 1) := by decide +kernel
theorem dX11_put_0 : decode cX11_put 0 = .ok (.aload_n 0, 1) := by decide +kernel
theorem dX11_put_1 : decode cX11_put 1 = .ok (.getfield 36, 3) := by decide +kernel
theorem dX11_put_4 : decode cX11_put 4 = .ok (.aload_n 0, 1) := by decide +kernel
theorem dX11_put_5 : decode cX11_put 5 = .ok (.getfield 39, 3) := by decide +kernel
theorem dX11_put_8 : decode cX11_put 8 = .ok (.iload_n 1, 1) := by decide +kernel
theorem dX11_put_9 : decode cX11_put 9 = .ok (.iastore, 1) := by decide +kernel
theorem dX11_put_10 : decode cX11_put 10 = .ok (.aload_n 0, 1) := by decide +kernel
theorem dX11_put_11 : decode cX11_put 11 = .ok (.dup, 1) := by decide +kernel
theorem dX11_put_12 : decode cX11_put 12 = .ok (.getfield 39, 3) := by decide +kernel
theorem dX11_put_15 : decode cX11_put 15 = .ok (.iconst 1, 1) := by decide +kernel
theorem dX11_put_16 : decode cX11_put 16 = .ok (.iadd, 1) := by decide +kernel
theorem dX11_put_17 : decode cX11_put 17 = .ok (.putfield 39, 3) := by decide +kernel
theorem dX11_put_20 : decode cX11_put 20 = .ok (.return_, 1) := by decide +kernel
theorem dX11_writeLetters_0 : decode cX11_writeLetters 0 = .ok (.aload_n 0, 1) := by decide +kernel
theorem dX11_writeLetters_1 : decode cX11_writeLetters 1 = .ok (.iconst 0, 1) := by decide +kernel
theorem dX11_writeLetters_2 : decode cX11_writeLetters 2 = .ok (.putfield 1, 3) := by decide +kernel
theorem dX11_writeLetters_5 : decode cX11_writeLetters 5 = .ok (.aload_n 0, 1) := by decide +kernel
theorem dX11_writeLetters_6 : decode cX11_writeLetters 6 = .ok (.iconst 0, 1) := by decide +kernel
theorem dX11_writeLetters_7 : decode cX11_writeLetters 7 = .ok (.putfield 39, 3) := by decide +kernel
theorem dX11_writeLetters_10 : decode cX11_writeLetters 10 = .ok (.iconst 0, 1) := by decide +kernel
theorem dX11_writeLetters_11 : decode cX11_writeLetters 11 = .ok (.istore_n 1, 1) := by decide +kernel
theorem dX11_writeLetters_12 : decode cX11_writeLetters 12 = .ok (.iload_n 1, 1) := by decide +kernel
theorem dX11_writeLetters_13 : decode cX11_writeLetters 13 = .ok (.aload_n 0, 1) := by decide +kernel
theorem dX11_writeLetters_14 : decode cX11_writeLetters 14 = .ok (.getfield 13, 3) := by decide +kernel
theorem dX11_writeLetters_17 : decode cX11_writeLetters 17 = .ok (.bipush 8, 2) := by decide +kernel
theorem dX11_writeLetters_19 : decode cX11_writeLetters 19 = .ok (.iaload, 1) := by decide +kernel
theorem dX11_writeLetters_20 : decode cX11_writeLetters 20 = .ok (.if_icmp .ge 144, 3) := by decide +kernel
theorem dX11_writeLetters_23 : decode cX11_writeLetters 23 = .ok (.iload_n 1, 1) := by decide +kernel
theorem dX11_writeLetters_24 : decode cX11_writeLetters 24 = .ok (.ifCond .le 9, 3) := by decide +kernel
theorem dX11_writeLetters_27 : decode cX11_writeLetters 27 = .ok (.aload_n 0, 1) := by decide +kernel
theorem dX11_writeLetters_28 : decode cX11_writeLetters 28 = .ok (.bipush 32, 2) := by decide +kernel
theorem dX11_writeLetters_30 : decode cX11_writeLetters 30 = .ok (.invokevirtual 288, 3) := by decide +kernel
theorem dX11_writeLetters_33 : decode cX11_writeLetters 33 = .ok (.bipush 22, 2) := by decide +kernel
theorem dX11_writeLetters_35 : decode cX11_writeLetters 35 = .ok (.aload_n 0, 1) := by decide +kernel
theorem dX11_writeLetters_36 : decode cX11_writeLetters 36 = .ok (.iload_n 1, 1) := by decide +kernel
theorem dX11_writeLetters_37 : decode cX11_writeLetters 37 = .ok (.iconst 0, 1) := by decide +kernel
theorem dX11_writeLetters_38 : decode cX11_writeLetters 38 = .ok (.invokevirtual 87, 3) := by decide +kernel
theorem dX11_writeLetters_41 : decode cX11_writeLetters 41 = .ok (.bipush 7, 2) := by decide +kernel
theorem dX11_writeLetters_43 : decode cX11_writeLetters 43 = .ok (.imul, 1) := by decide +kernel
theorem dX11_writeLetters_44 : decode cX11_writeLetters 44 = .ok (.iadd, 1) := by decide +kernel
theorem dX11_writeLetters_45 : decode cX11_writeLetters 45 = .ok (.istore_n 2, 1) := by decide +kernel
theorem dX11_writeLetters_46 : decode cX11_writeLetters 46 = .ok (.iconst 0, 1) := by decide +kernel
theorem dX11_writeLetters_47 : decode cX11_writeLetters 47 = .ok (.istore_n 3, 1) := by decide +kernel
theorem dX11_writeLetters_48 : decode cX11_writeLetters 48 = .ok (.iload_n 3, 1) := by decide +kernel
theorem dX11_writeLetters_49 : decode cX11_writeLetters 49 = .ok (.aload_n 0, 1) := by decide +kernel
theorem dX11_writeLetters_50 : decode cX11_writeLetters 50 = .ok (.getfield 13, 3) := by decide +kernel
theorem dX11_writeLetters_53 : decode cX11_writeLetters 53 = .ok (.iload_n 2, 1) := by decide +kernel
theorem dX11_writeLetters_54 : decode cX11_writeLetters 54 = .ok (.iaload, 1) := by decide +kernel
theorem dX11_writeLetters_55 : decode cX11_writeLetters 55 = .ok (.if_icmp .ge 23, 3) := by decide +kernel
theorem dX11_writeLetters_58 : decode cX11_writeLetters 58 = .ok (.aload_n 0, 1) := by decide +kernel
theorem dX11_writeLetters_59 : decode cX11_writeLetters 59 = .ok (.aload_n 0, 1) := by decide +kernel
theorem dX11_writeLetters_60 : decode cX11_writeLetters 60 = .ok (.getfield 13, 3) := by decide +kernel
theorem dX11_writeLetters_63 : decode cX11_writeLetters 63 = .ok (.iload_n 2, 1) := by decide +kernel
theorem dX11_writeLetters_64 : decode cX11_writeLetters 64 = .ok (.iconst 1, 1) := by decide +kernel
theorem dX11_writeLetters_65 : decode cX11_writeLetters 65 = .ok (.iadd, 1) := by decide +kernel
theorem dX11_writeLetters_66 : decode cX11_writeLetters 66 = .ok (.iload_n 3, 1) := by decide +kernel
theorem dX11_writeLetters_67 : decode cX11_writeLetters 67 = .ok (.iadd, 1) := by decide +kernel
theorem dX11_writeLetters_68 : decode cX11_writeLetters 68 = .ok (.iaload, 1) := by decide +kernel
theorem dX11_writeLetters_69 : decode cX11_writeLetters 69 = .ok (.invokevirtual 288, 3) := by decide +kernel
theorem dX11_writeLetters_72 : decode cX11_writeLetters 72 = .ok (.iinc 3 1, 3) := by decide +kernel
theorem dX11_writeLetters_75 : decode cX11_writeLetters 75 = .ok (.goto (-27), 3) := by decide +kernel
theorem dX11_writeLetters_78 : decode cX11_writeLetters 78 = .ok (.aload_n 0, 1) := by decide +kernel
theorem dX11_writeLetters_79 : decode cX11_writeLetters 79 = .ok (.bipush 58, 2) := by decide +kernel
theorem dX11_writeLetters_81 : decode cX11_writeLetters 81 = .ok (.invokevirtual 288, 3) := by decide +kernel
theorem dX11_writeLetters_84 : decode cX11_writeLetters 84 = .ok (.aload_n 0, 1) := by decide +kernel
theorem dX11_writeLetters_85 : decode cX11_writeLetters 85 = .ok (.iload_n 1, 1) := by decide +kernel
theorem dX11_writeLetters_86 : decode cX11_writeLetters 86 = .ok (.iconst 5, 1) := by decide +kernel
theorem dX11_writeLetters_87 : decode cX11_writeLetters 87 = .ok (.invokevirtual 87, 3) := by decide +kernel
theorem dX11_writeLetters_90 : decode cX11_writeLetters 90 = .ok (.bipush 10, 2) := by decide +kernel
theorem dX11_writeLetters_92 : decode cX11_writeLetters 92 = .ok (.if_icmp .lt 19, 3) := by decide +kernel
theorem dX11_writeLetters_95 : decode cX11_writeLetters 95 = .ok (.aload_n 0, 1) := by decide +kernel
theorem dX11_writeLetters_96 : decode cX11_writeLetters 96 = .ok (.bipush 48, 2) := by decide +kernel
theorem dX11_writeLetters_98 : decode cX11_writeLetters 98 = .ok (.aload_n 0, 1) := by decide +kernel
theorem dX11_writeLetters_99 : decode cX11_writeLetters 99 = .ok (.iload_n 1, 1) := by decide +kernel
theorem dX11_writeLetters_100 : decode cX11_writeLetters 100 = .ok (.iconst 5, 1) := by decide +kernel
theorem dX11_writeLetters_101 : decode cX11_writeLetters 101 = .ok (.invokevirtual 87, 3) := by decide +kernel
theorem dX11_writeLetters_104 : decode cX11_writeLetters 104 = .ok (.bipush 10, 2) := by decide +kernel
theorem dX11_writeLetters_106 : decode cX11_writeLetters 106 = .ok (.idiv, 1) := by decide +kernel
theorem dX11_writeLetters_107 : decode cX11_writeLetters 107 = .ok (.iadd, 1) := by decide +kernel
theorem dX11_writeLetters_108 : decode cX11_writeLetters 108 = .ok (.invokevirtual 288, 3) := by decide +kernel
theorem dX11_writeLetters_111 : decode cX11_writeLetters 111 = .ok (.aload_n 0, 1) := by decide +kernel
theorem dX11_writeLetters_112 : decode cX11_writeLetters 112 = .ok (.bipush 48, 2) := by decide +kernel
theorem dX11_writeLetters_114 : decode cX11_writeLetters 114 = .ok (.aload_n 0, 1) := by decide +kernel
theorem dX11_writeLetters_115 : decode cX11_writeLetters 115 = .ok (.iload_n 1, 1) := by decide +kernel
theorem dX11_writeLetters_116 : decode cX11_writeLetters 116 = .ok (.iconst 5, 1) := by decide +kernel
theorem dX11_writeLetters_117 : decode cX11_writeLetters 117 = .ok (.invokevirtual 87, 3) := by decide +kernel
theorem dX11_writeLetters_120 : decode cX11_writeLetters 120 = .ok (.bipush 10, 2) := by decide +kernel
theorem dX11_writeLetters_122 : decode cX11_writeLetters 122 = .ok (.irem, 1) := by decide +kernel
theorem dX11_writeLetters_123 : decode cX11_writeLetters 123 = .ok (.iadd, 1) := by decide +kernel
theorem dX11_writeLetters_124 : decode cX11_writeLetters 124 = .ok (.invokevirtual 288, 3) := by decide +kernel
theorem dX11_writeLetters_127 : decode cX11_writeLetters 127 = .ok (.iload_n 1, 1) := by decide +kernel
theorem dX11_writeLetters_128 : decode cX11_writeLetters 128 = .ok (.aload_n 0, 1) := by decide +kernel
theorem dX11_writeLetters_129 : decode cX11_writeLetters 129 = .ok (.invokevirtual 111, 3) := by decide +kernel
theorem dX11_writeLetters_132 : decode cX11_writeLetters 132 = .ok (.if_icmp .ne 12, 3) := by decide +kernel
theorem dX11_writeLetters_135 : decode cX11_writeLetters 135 = .ok (.aload_n 0, 1) := by decide +kernel
theorem dX11_writeLetters_136 : decode cX11_writeLetters 136 = .ok (.bipush 42, 2) := by decide +kernel
theorem dX11_writeLetters_138 : decode cX11_writeLetters 138 = .ok (.invokevirtual 288, 3) := by decide +kernel
theorem dX11_writeLetters_141 : decode cX11_writeLetters 141 = .ok (.goto 17, 3) := by decide +kernel
theorem dX11_writeLetters_144 : decode cX11_writeLetters 144 = .ok (.aload_n 0, 1) := by decide +kernel
theorem dX11_writeLetters_145 : decode cX11_writeLetters 145 = .ok (.iload_n 1, 1) := by decide +kernel
theorem dX11_writeLetters_146 : decode cX11_writeLetters 146 = .ok (.invokevirtual 137, 3) := by decide +kernel
theorem dX11_writeLetters_149 : decode cX11_writeLetters 149 = .ok (.ifCond .eq 9, 3) := by decide +kernel
theorem dX11_writeLetters_152 : decode cX11_writeLetters 152 = .ok (.aload_n 0, 1) := by decide +kernel
theorem dX11_writeLetters_153 : decode cX11_writeLetters 153 = .ok (.bipush 33, 2) := by decide +kernel
theorem dX11_writeLetters_155 : decode cX11_writeLetters 155 = .ok (.invokevirtual 288, 3) := by decide +kernel
theorem dX11_writeLetters_158 : decode cX11_writeLetters 158 = .ok (.iinc 1 1, 3) := by decide +kernel
theorem dX11_writeLetters_161 : decode cX11_writeLetters 161 = .ok (.goto (-149), 3) := by decide +kernel
theorem dX11_writeLetters_164 : decode cX11_writeLetters 164 = .ok (.aload_n 0, 1) := by decide +kernel
theorem dX11_writeLetters_165 : decode cX11_writeLetters 165 = .ok (.getfield 39, 3) := by decide +kernel
theorem dX11_writeLetters_168 : decode cX11_writeLetters 168 = .ok (.ireturn, 1) := by decide +kernel
theorem dX11_outputByte_0 : decode cX11_outputByte 0 = .ok (.aload_n 0, 1) := by decide +kernel
theorem dX11_outputByte_1 : decode cX11_outputByte 1 = .ok (.iload_n 1, 1) := by decide +kernel
theorem dX11_outputByte_2 : decode cX11_outputByte 2 = .ok (.iconst 0, 1) := by decide +kernel
theorem dX11_outputByte_3 : decode cX11_outputByte 3 = .ok (.aload_n 0, 1) := by decide +kernel
theorem dX11_outputByte_4 : decode cX11_outputByte 4 = .ok (.getfield 39, 3) := by decide +kernel
theorem dX11_outputByte_7 : decode cX11_outputByte 7 = .ok (.iconst 1, 1) := by decide +kernel
theorem dX11_outputByte_8 : decode cX11_outputByte 8 = .ok (.isub, 1) := by decide +kernel
theorem dX11_outputByte_9 : decode cX11_outputByte 9 = .ok (.invokestatic 79, 3) := by decide +kernel
theorem dX11_outputByte_12 : decode cX11_outputByte 12 = .ok (.ifCond .ne 7, 3) := by decide +kernel
theorem dX11_outputByte_15 : decode cX11_outputByte 15 = .ok (.iconst 1, 1) := by decide +kernel
theorem dX11_outputByte_16 : decode cX11_outputByte 16 = .ok (.goto 4, 3) := by decide +kernel
theorem dX11_outputByte_19 : decode cX11_outputByte 19 = .ok (.iconst 0, 1) := by decide +kernel
theorem dX11_outputByte_20 : decode cX11_outputByte 20 = .ok (.iconst 0, 1) := by decide +kernel
theorem dX11_outputByte_21 : decode cX11_outputByte 21 = .ok (.iconst 0, 1) := by decide +kernel
theorem dX11_outputByte_22 : decode cX11_outputByte 22 = .ok (.invokevirtual 146, 3) := by decide +kernel
theorem dX11_outputByte_25 : decode cX11_outputByte 25 = .ok (.ifCond .eq 5, 3) := by decide +kernel
theorem dX11_outputByte_28 : decode cX11_outputByte 28 = .ok (.iconst 0, 1) := by decide +kernel
theorem dX11_outputByte_29 : decode cX11_outputByte 29 = .ok (.ireturn, 1) := by decide +kernel
theorem dX11_outputByte_30 : decode cX11_outputByte 30 = .ok (.aload_n 0, 1) := by decide +kernel
theorem dX11_outputByte_31 : decode cX11_outputByte 31 = .ok (.getfield 36, 3) := by decide +kernel
theorem dX11_outputByte_34 : decode cX11_outputByte 34 = .ok (.iload_n 1, 1) := by decide +kernel
theorem dX11_outputByte_35 : decode cX11_outputByte 35 = .ok (.iaload, 1) := by decide +kernel
theorem dX11_outputByte_36 : decode cX11_outputByte 36 = .ok (.ireturn, 1) := by decide +kernel
theorem dL_append_0 : decode cL_append 0 = .ok (.aload 6, 2) := by decide +kernel
theorem dL_append_2 : decode cL_append 2 = .ok (.iconst 0, 1) := by decide +kernel
theorem dL_append_3 : decode cL_append 3 = .ok (.aload_n 0, 1) := by decide +kernel
theorem dL_append_4 : decode cL_append 4 = .ok (.iload_n 1, 1) := by decide +kernel
theorem dL_append_5 : decode cL_append 5 = .ok (.iload_n 2, 1) := by decide +kernel
theorem dL_append_6 : decode cL_append 6 = .ok (.iload_n 3, 1) := by decide +kernel
theorem dL_append_7 : decode cL_append 7 = .ok (.iload 4, 2) := by decide +kernel
theorem dL_append_9 : decode cL_append 9 = .ok (.iload 5, 2) := by decide +kernel
theorem dL_append_11 : decode cL_append 11 = .ok (.invokevirtual 7, 3) := by decide +kernel
theorem dL_append_14 : decode cL_append 14 = .ok (.i2l, 1) := by decide +kernel
theorem dL_append_15 : decode cL_append 15 = .ok (.lastore, 1) := by decide +kernel
theorem dL_append_16 : decode cL_append 16 = .ok (.goto 7, 3) := by decide +kernel
theorem dL_append_19 : decode cL_append 19 = .ok (.astore 7, 2) := by decide +kernel
theorem dL_append_21 : decode cL_append 21 = .ok (.iconst 1, 1) := by decide +kernel
theorem dL_append_22 : decode cL_append 22 = .ok (.ireturn, 1) := by decide +kernel
theorem dL_append_23 : decode cL_append 23 = .ok (.iconst 0, 1) := by decide +kernel
theorem dL_append_24 : decode cL_append 24 = .ok (.ireturn, 1) := by decide +kernel
theorem dL_truncate_0 : decode cL_truncate 0 = .ok (.aload_n 2, 1) := by decide +kernel
theorem dL_truncate_1 : decode cL_truncate 1 = .ok (.iconst 0, 1) := by decide +kernel
theorem dL_truncate_2 : decode cL_truncate 2 = .ok (.aload_n 0, 1) := by decide +kernel
theorem dL_truncate_3 : decode cL_truncate 3 = .ok (.iload_n 1, 1) := by decide +kernel
theorem dL_truncate_4 : decode cL_truncate 4 = .ok (.invokevirtual 15, 3) := by decide +kernel
theorem dL_truncate_7 : decode cL_truncate 7 = .ok (.i2l, 1) := by decide +kernel
theorem dL_truncate_8 : decode cL_truncate 8 = .ok (.lastore, 1) := by decide +kernel
theorem dL_truncate_9 : decode cL_truncate 9 = .ok (.goto 6, 3) := by decide +kernel
theorem dL_truncate_12 : decode cL_truncate 12 = .ok (.astore_n 3, 1) := by decide +kernel
theorem dL_truncate_13 : decode cL_truncate 13 = .ok (.iconst 1, 1) := by decide +kernel
theorem dL_truncate_14 : decode cL_truncate 14 = .ok (.ireturn, 1) := by decide +kernel
theorem dL_truncate_15 : decode cL_truncate 15 = .ok (.iconst 0, 1) := by decide +kernel
theorem dL_truncate_16 : decode cL_truncate 16 = .ok (.ireturn, 1) := by decide +kernel
theorem dL_load_0 : decode cL_load 0 = .ok (.aload_n 1, 1) := by decide +kernel
theorem dL_load_1 : decode cL_load 1 = .ok (.iconst 0, 1) := by decide +kernel
theorem dL_load_2 : decode cL_load 2 = .ok (.aload_n 0, 1) := by decide +kernel
theorem dL_load_3 : decode cL_load 3 = .ok (.invokevirtual 21, 3) := by decide +kernel
theorem dL_load_6 : decode cL_load 6 = .ok (.i2l, 1) := by decide +kernel
theorem dL_load_7 : decode cL_load 7 = .ok (.lastore, 1) := by decide +kernel
theorem dL_load_8 : decode cL_load 8 = .ok (.goto 6, 3) := by decide +kernel
theorem dL_load_11 : decode cL_load 11 = .ok (.astore_n 2, 1) := by decide +kernel
theorem dL_load_12 : decode cL_load 12 = .ok (.iconst 1, 1) := by decide +kernel
theorem dL_load_13 : decode cL_load 13 = .ok (.ireturn, 1) := by decide +kernel
theorem dL_load_14 : decode cL_load 14 = .ok (.iconst 0, 1) := by decide +kernel
theorem dL_load_15 : decode cL_load 15 = .ok (.ireturn, 1) := by decide +kernel
theorem dL_nameByte_0 : decode cL_nameByte 0 = .ok (.aload_n 3, 1) := by decide +kernel
theorem dL_nameByte_1 : decode cL_nameByte 1 = .ok (.iconst 0, 1) := by decide +kernel
theorem dL_nameByte_2 : decode cL_nameByte 2 = .ok (.aload_n 0, 1) := by decide +kernel
theorem dL_nameByte_3 : decode cL_nameByte 3 = .ok (.iload_n 1, 1) := by decide +kernel
theorem dL_nameByte_4 : decode cL_nameByte 4 = .ok (.iload_n 2, 1) := by decide +kernel
theorem dL_nameByte_5 : decode cL_nameByte 5 = .ok (.invokevirtual 25, 3) := by decide +kernel
theorem dL_nameByte_8 : decode cL_nameByte 8 = .ok (.i2l, 1) := by decide +kernel
theorem dL_nameByte_9 : decode cL_nameByte 9 = .ok (.lastore, 1) := by decide +kernel
theorem dL_nameByte_10 : decode cL_nameByte 10 = .ok (.goto 7, 3) := by decide +kernel
theorem dL_nameByte_13 : decode cL_nameByte 13 = .ok (.astore 4, 2) := by decide +kernel
theorem dL_nameByte_15 : decode cL_nameByte 15 = .ok (.iconst 1, 1) := by decide +kernel
theorem dL_nameByte_16 : decode cL_nameByte 16 = .ok (.ireturn, 1) := by decide +kernel
theorem dL_nameByte_17 : decode cL_nameByte 17 = .ok (.iconst 0, 1) := by decide +kernel
theorem dL_nameByte_18 : decode cL_nameByte 18 = .ok (.ireturn, 1) := by decide +kernel
theorem dL_findClerk_0 : decode cL_findClerk 0 = .ok (.aload_n 1, 1) := by decide +kernel
theorem dL_findClerk_1 : decode cL_findClerk 1 = .ok (.iconst 0, 1) := by decide +kernel
theorem dL_findClerk_2 : decode cL_findClerk 2 = .ok (.aload_n 0, 1) := by decide +kernel
theorem dL_findClerk_3 : decode cL_findClerk 3 = .ok (.invokevirtual 31, 3) := by decide +kernel
theorem dL_findClerk_6 : decode cL_findClerk 6 = .ok (.i2l, 1) := by decide +kernel
theorem dL_findClerk_7 : decode cL_findClerk 7 = .ok (.lastore, 1) := by decide +kernel
theorem dL_findClerk_8 : decode cL_findClerk 8 = .ok (.goto 6, 3) := by decide +kernel
theorem dL_findClerk_11 : decode cL_findClerk 11 = .ok (.astore_n 2, 1) := by decide +kernel
theorem dL_findClerk_12 : decode cL_findClerk 12 = .ok (.iconst 1, 1) := by decide +kernel
theorem dL_findClerk_13 : decode cL_findClerk 13 = .ok (.ireturn, 1) := by decide +kernel
theorem dL_findClerk_14 : decode cL_findClerk 14 = .ok (.iconst 0, 1) := by decide +kernel
theorem dL_findClerk_15 : decode cL_findClerk 15 = .ok (.ireturn, 1) := by decide +kernel
theorem dL_clerkOf_0 : decode cL_clerkOf 0 = .ok (.aload_n 2, 1) := by decide +kernel
theorem dL_clerkOf_1 : decode cL_clerkOf 1 = .ok (.iconst 0, 1) := by decide +kernel
theorem dL_clerkOf_2 : decode cL_clerkOf 2 = .ok (.aload_n 0, 1) := by decide +kernel
theorem dL_clerkOf_3 : decode cL_clerkOf 3 = .ok (.iload_n 1, 1) := by decide +kernel
theorem dL_clerkOf_4 : decode cL_clerkOf 4 = .ok (.invokevirtual 36, 3) := by decide +kernel
theorem dL_clerkOf_7 : decode cL_clerkOf 7 = .ok (.i2l, 1) := by decide +kernel
theorem dL_clerkOf_8 : decode cL_clerkOf 8 = .ok (.lastore, 1) := by decide +kernel
theorem dL_clerkOf_9 : decode cL_clerkOf 9 = .ok (.goto 6, 3) := by decide +kernel
theorem dL_clerkOf_12 : decode cL_clerkOf 12 = .ok (.astore_n 3, 1) := by decide +kernel
theorem dL_clerkOf_13 : decode cL_clerkOf 13 = .ok (.iconst 1, 1) := by decide +kernel
theorem dL_clerkOf_14 : decode cL_clerkOf 14 = .ok (.ireturn, 1) := by decide +kernel
theorem dL_clerkOf_15 : decode cL_clerkOf 15 = .ok (.iconst 0, 1) := by decide +kernel
theorem dL_clerkOf_16 : decode cL_clerkOf 16 = .ok (.ireturn, 1) := by decide +kernel
theorem dL_length_0 : decode cL_length 0 = .ok (.aload_n 2, 1) := by decide +kernel
theorem dL_length_1 : decode cL_length 1 = .ok (.iconst 0, 1) := by decide +kernel
theorem dL_length_2 : decode cL_length 2 = .ok (.aload_n 0, 1) := by decide +kernel
theorem dL_length_3 : decode cL_length 3 = .ok (.iload_n 1, 1) := by decide +kernel
theorem dL_length_4 : decode cL_length 4 = .ok (.invokevirtual 39, 3) := by decide +kernel
theorem dL_length_7 : decode cL_length 7 = .ok (.i2l, 1) := by decide +kernel
theorem dL_length_8 : decode cL_length 8 = .ok (.lastore, 1) := by decide +kernel
theorem dL_length_9 : decode cL_length 9 = .ok (.goto 6, 3) := by decide +kernel
theorem dL_length_12 : decode cL_length 12 = .ok (.astore_n 3, 1) := by decide +kernel
theorem dL_length_13 : decode cL_length 13 = .ok (.iconst 1, 1) := by decide +kernel
theorem dL_length_14 : decode cL_length 14 = .ok (.ireturn, 1) := by decide +kernel
theorem dL_length_15 : decode cL_length 15 = .ok (.iconst 0, 1) := by decide +kernel
theorem dL_length_16 : decode cL_length 16 = .ok (.ireturn, 1) := by decide +kernel
theorem dL_arrival_0 : decode cL_arrival 0 = .ok (.aload_n 2, 1) := by decide +kernel
theorem dL_arrival_1 : decode cL_arrival 1 = .ok (.iconst 0, 1) := by decide +kernel
theorem dL_arrival_2 : decode cL_arrival 2 = .ok (.aload_n 0, 1) := by decide +kernel
theorem dL_arrival_3 : decode cL_arrival 3 = .ok (.iload_n 1, 1) := by decide +kernel
theorem dL_arrival_4 : decode cL_arrival 4 = .ok (.invokevirtual 42, 3) := by decide +kernel
theorem dL_arrival_7 : decode cL_arrival 7 = .ok (.i2l, 1) := by decide +kernel
theorem dL_arrival_8 : decode cL_arrival 8 = .ok (.lastore, 1) := by decide +kernel
theorem dL_arrival_9 : decode cL_arrival 9 = .ok (.goto 6, 3) := by decide +kernel
theorem dL_arrival_12 : decode cL_arrival 12 = .ok (.astore_n 3, 1) := by decide +kernel
theorem dL_arrival_13 : decode cL_arrival 13 = .ok (.iconst 1, 1) := by decide +kernel
theorem dL_arrival_14 : decode cL_arrival 14 = .ok (.ireturn, 1) := by decide +kernel
theorem dL_arrival_15 : decode cL_arrival 15 = .ok (.iconst 0, 1) := by decide +kernel
theorem dL_arrival_16 : decode cL_arrival 16 = .ok (.ireturn, 1) := by decide +kernel
theorem dL_deadline_0 : decode cL_deadline 0 = .ok (.aload_n 2, 1) := by decide +kernel
theorem dL_deadline_1 : decode cL_deadline 1 = .ok (.iconst 0, 1) := by decide +kernel
theorem dL_deadline_2 : decode cL_deadline 2 = .ok (.aload_n 0, 1) := by decide +kernel
theorem dL_deadline_3 : decode cL_deadline 3 = .ok (.iload_n 1, 1) := by decide +kernel
theorem dL_deadline_4 : decode cL_deadline 4 = .ok (.invokevirtual 45, 3) := by decide +kernel
theorem dL_deadline_7 : decode cL_deadline 7 = .ok (.i2l, 1) := by decide +kernel
theorem dL_deadline_8 : decode cL_deadline 8 = .ok (.lastore, 1) := by decide +kernel
theorem dL_deadline_9 : decode cL_deadline 9 = .ok (.goto 6, 3) := by decide +kernel
theorem dL_deadline_12 : decode cL_deadline 12 = .ok (.astore_n 3, 1) := by decide +kernel
theorem dL_deadline_13 : decode cL_deadline 13 = .ok (.iconst 1, 1) := by decide +kernel
theorem dL_deadline_14 : decode cL_deadline 14 = .ok (.ireturn, 1) := by decide +kernel
theorem dL_deadline_15 : decode cL_deadline 15 = .ok (.iconst 0, 1) := by decide +kernel
theorem dL_deadline_16 : decode cL_deadline 16 = .ok (.ireturn, 1) := by decide +kernel
theorem dL_priority_0 : decode cL_priority 0 = .ok (.aload_n 2, 1) := by decide +kernel
theorem dL_priority_1 : decode cL_priority 1 = .ok (.iconst 0, 1) := by decide +kernel
theorem dL_priority_2 : decode cL_priority 2 = .ok (.aload_n 0, 1) := by decide +kernel
theorem dL_priority_3 : decode cL_priority 3 = .ok (.iload_n 1, 1) := by decide +kernel
theorem dL_priority_4 : decode cL_priority 4 = .ok (.invokevirtual 48, 3) := by decide +kernel
theorem dL_priority_7 : decode cL_priority 7 = .ok (.i2l, 1) := by decide +kernel
theorem dL_priority_8 : decode cL_priority 8 = .ok (.lastore, 1) := by decide +kernel
theorem dL_priority_9 : decode cL_priority 9 = .ok (.goto 6, 3) := by decide +kernel
theorem dL_priority_12 : decode cL_priority 12 = .ok (.astore_n 3, 1) := by decide +kernel
theorem dL_priority_13 : decode cL_priority 13 = .ok (.iconst 1, 1) := by decide +kernel
theorem dL_priority_14 : decode cL_priority 14 = .ok (.ireturn, 1) := by decide +kernel
theorem dL_priority_15 : decode cL_priority 15 = .ok (.iconst 0, 1) := by decide +kernel
theorem dL_priority_16 : decode cL_priority 16 = .ok (.ireturn, 1) := by decide +kernel
theorem dL_remaining_0 : decode cL_remaining 0 = .ok (.aload_n 2, 1) := by decide +kernel
theorem dL_remaining_1 : decode cL_remaining 1 = .ok (.iconst 0, 1) := by decide +kernel
theorem dL_remaining_2 : decode cL_remaining 2 = .ok (.aload_n 0, 1) := by decide +kernel
theorem dL_remaining_3 : decode cL_remaining 3 = .ok (.iload_n 1, 1) := by decide +kernel
theorem dL_remaining_4 : decode cL_remaining 4 = .ok (.invokevirtual 51, 3) := by decide +kernel
theorem dL_remaining_7 : decode cL_remaining 7 = .ok (.i2l, 1) := by decide +kernel
theorem dL_remaining_8 : decode cL_remaining 8 = .ok (.lastore, 1) := by decide +kernel
theorem dL_remaining_9 : decode cL_remaining 9 = .ok (.goto 6, 3) := by decide +kernel
theorem dL_remaining_12 : decode cL_remaining 12 = .ok (.astore_n 3, 1) := by decide +kernel
theorem dL_remaining_13 : decode cL_remaining 13 = .ok (.iconst 1, 1) := by decide +kernel
theorem dL_remaining_14 : decode cL_remaining 14 = .ok (.ireturn, 1) := by decide +kernel
theorem dL_remaining_15 : decode cL_remaining 15 = .ok (.iconst 0, 1) := by decide +kernel
theorem dL_remaining_16 : decode cL_remaining 16 = .ok (.ireturn, 1) := by decide +kernel
theorem dL_finishMinute_0 : decode cL_finishMinute 0 = .ok (.aload_n 2, 1) := by decide +kernel
theorem dL_finishMinute_1 : decode cL_finishMinute 1 = .ok (.iconst 0, 1) := by decide +kernel
theorem dL_finishMinute_2 : decode cL_finishMinute 2 = .ok (.aload_n 0, 1) := by decide +kernel
theorem dL_finishMinute_3 : decode cL_finishMinute 3 = .ok (.iload_n 1, 1) := by decide +kernel
theorem dL_finishMinute_4 : decode cL_finishMinute 4 = .ok (.invokevirtual 54, 3) := by decide +kernel
theorem dL_finishMinute_7 : decode cL_finishMinute 7 = .ok (.i2l, 1) := by decide +kernel
theorem dL_finishMinute_8 : decode cL_finishMinute 8 = .ok (.lastore, 1) := by decide +kernel
theorem dL_finishMinute_9 : decode cL_finishMinute 9 = .ok (.goto 6, 3) := by decide +kernel
theorem dL_finishMinute_12 : decode cL_finishMinute 12 = .ok (.astore_n 3, 1) := by decide +kernel
theorem dL_finishMinute_13 : decode cL_finishMinute 13 = .ok (.iconst 1, 1) := by decide +kernel
theorem dL_finishMinute_14 : decode cL_finishMinute 14 = .ok (.ireturn, 1) := by decide +kernel
theorem dL_finishMinute_15 : decode cL_finishMinute 15 = .ok (.iconst 0, 1) := by decide +kernel
theorem dL_finishMinute_16 : decode cL_finishMinute 16 = .ok (.ireturn, 1) := by decide +kernel
theorem dL_waitingTime_0 : decode cL_waitingTime 0 = .ok (.aload_n 2, 1) := by decide +kernel
theorem dL_waitingTime_1 : decode cL_waitingTime 1 = .ok (.iconst 0, 1) := by decide +kernel
theorem dL_waitingTime_2 : decode cL_waitingTime 2 = .ok (.aload_n 0, 1) := by decide +kernel
theorem dL_waitingTime_3 : decode cL_waitingTime 3 = .ok (.iload_n 1, 1) := by decide +kernel
theorem dL_waitingTime_4 : decode cL_waitingTime 4 = .ok (.invokevirtual 57, 3) := by decide +kernel
theorem dL_waitingTime_7 : decode cL_waitingTime 7 = .ok (.i2l, 1) := by decide +kernel
theorem dL_waitingTime_8 : decode cL_waitingTime 8 = .ok (.lastore, 1) := by decide +kernel
theorem dL_waitingTime_9 : decode cL_waitingTime 9 = .ok (.goto 6, 3) := by decide +kernel
theorem dL_waitingTime_12 : decode cL_waitingTime 12 = .ok (.astore_n 3, 1) := by decide +kernel
theorem dL_waitingTime_13 : decode cL_waitingTime 13 = .ok (.iconst 1, 1) := by decide +kernel
theorem dL_waitingTime_14 : decode cL_waitingTime 14 = .ok (.ireturn, 1) := by decide +kernel
theorem dL_waitingTime_15 : decode cL_waitingTime 15 = .ok (.iconst 0, 1) := by decide +kernel
theorem dL_waitingTime_16 : decode cL_waitingTime 16 = .ok (.ireturn, 1) := by decide +kernel
theorem dL_effectivePriority_0 : decode cL_effectivePriority 0 = .ok (.aload_n 2, 1) := by decide +kernel
theorem dL_effectivePriority_1 : decode cL_effectivePriority 1 = .ok (.iconst 0, 1) := by decide +kernel
theorem dL_effectivePriority_2 : decode cL_effectivePriority 2 = .ok (.aload_n 0, 1) := by decide +kernel
theorem dL_effectivePriority_3 : decode cL_effectivePriority 3 = .ok (.iload_n 1, 1) := by decide +kernel
theorem dL_effectivePriority_4 : decode cL_effectivePriority 4 = .ok (.invokevirtual 60, 3) := by decide +kernel
theorem dL_effectivePriority_7 : decode cL_effectivePriority 7 = .ok (.i2l, 1) := by decide +kernel
theorem dL_effectivePriority_8 : decode cL_effectivePriority 8 = .ok (.lastore, 1) := by decide +kernel
theorem dL_effectivePriority_9 : decode cL_effectivePriority 9 = .ok (.goto 6, 3) := by decide +kernel
theorem dL_effectivePriority_12 : decode cL_effectivePriority 12 = .ok (.astore_n 3, 1) := by decide +kernel
theorem dL_effectivePriority_13 : decode cL_effectivePriority 13 = .ok (.iconst 1, 1) := by decide +kernel
theorem dL_effectivePriority_14 : decode cL_effectivePriority 14 = .ok (.ireturn, 1) := by decide +kernel
theorem dL_effectivePriority_15 : decode cL_effectivePriority 15 = .ok (.iconst 0, 1) := by decide +kernel
theorem dL_effectivePriority_16 : decode cL_effectivePriority 16 = .ok (.ireturn, 1) := by decide +kernel
theorem dL_isReady_0 : decode cL_isReady 0 = .ok (.aload_n 2, 1) := by decide +kernel
theorem dL_isReady_1 : decode cL_isReady 1 = .ok (.iconst 0, 1) := by decide +kernel
theorem dL_isReady_2 : decode cL_isReady 2 = .ok (.aload_n 0, 1) := by decide +kernel
theorem dL_isReady_3 : decode cL_isReady 3 = .ok (.iload_n 1, 1) := by decide +kernel
theorem dL_isReady_4 : decode cL_isReady 4 = .ok (.invokevirtual 63, 3) := by decide +kernel
theorem dL_isReady_7 : decode cL_isReady 7 = .ok (.ifCond .eq 7, 3) := by decide +kernel
theorem dL_isReady_10 : decode cL_isReady 10 = .ok (.lconst 1, 1) := by decide +kernel
theorem dL_isReady_11 : decode cL_isReady 11 = .ok (.goto 4, 3) := by decide +kernel
theorem dL_isReady_14 : decode cL_isReady 14 = .ok (.lconst 0, 1) := by decide +kernel
theorem dL_isReady_15 : decode cL_isReady 15 = .ok (.lastore, 1) := by decide +kernel
theorem dL_isReady_16 : decode cL_isReady 16 = .ok (.goto 6, 3) := by decide +kernel
theorem dL_isReady_19 : decode cL_isReady 19 = .ok (.astore_n 3, 1) := by decide +kernel
theorem dL_isReady_20 : decode cL_isReady 20 = .ok (.iconst 1, 1) := by decide +kernel
theorem dL_isReady_21 : decode cL_isReady 21 = .ok (.ireturn, 1) := by decide +kernel
theorem dL_isReady_22 : decode cL_isReady 22 = .ok (.iconst 0, 1) := by decide +kernel
theorem dL_isReady_23 : decode cL_isReady 23 = .ok (.ireturn, 1) := by decide +kernel
theorem dL_selectedBy_0 : decode cL_selectedBy 0 = .ok (.aload_n 2, 1) := by decide +kernel
theorem dL_selectedBy_1 : decode cL_selectedBy 1 = .ok (.iconst 0, 1) := by decide +kernel
theorem dL_selectedBy_2 : decode cL_selectedBy 2 = .ok (.aload_n 0, 1) := by decide +kernel
theorem dL_selectedBy_3 : decode cL_selectedBy 3 = .ok (.iload_n 1, 1) := by decide +kernel
theorem dL_selectedBy_4 : decode cL_selectedBy 4 = .ok (.invokevirtual 67, 3) := by decide +kernel
theorem dL_selectedBy_7 : decode cL_selectedBy 7 = .ok (.i2l, 1) := by decide +kernel
theorem dL_selectedBy_8 : decode cL_selectedBy 8 = .ok (.lastore, 1) := by decide +kernel
theorem dL_selectedBy_9 : decode cL_selectedBy 9 = .ok (.goto 6, 3) := by decide +kernel
theorem dL_selectedBy_12 : decode cL_selectedBy 12 = .ok (.astore_n 3, 1) := by decide +kernel
theorem dL_selectedBy_13 : decode cL_selectedBy 13 = .ok (.iconst 1, 1) := by decide +kernel
theorem dL_selectedBy_14 : decode cL_selectedBy 14 = .ok (.ireturn, 1) := by decide +kernel
theorem dL_selectedBy_15 : decode cL_selectedBy 15 = .ok (.iconst 0, 1) := by decide +kernel
theorem dL_selectedBy_16 : decode cL_selectedBy 16 = .ok (.ireturn, 1) := by decide +kernel
theorem dL_openLettersOf_0 : decode cL_openLettersOf 0 = .ok (.aload_n 2, 1) := by decide +kernel
theorem dL_openLettersOf_1 : decode cL_openLettersOf 1 = .ok (.iconst 0, 1) := by decide +kernel
theorem dL_openLettersOf_2 : decode cL_openLettersOf 2 = .ok (.aload_n 0, 1) := by decide +kernel
theorem dL_openLettersOf_3 : decode cL_openLettersOf 3 = .ok (.iload_n 1, 1) := by decide +kernel
theorem dL_openLettersOf_4 : decode cL_openLettersOf 4 = .ok (.invokevirtual 70, 3) := by decide +kernel
theorem dL_openLettersOf_7 : decode cL_openLettersOf 7 = .ok (.i2l, 1) := by decide +kernel
theorem dL_openLettersOf_8 : decode cL_openLettersOf 8 = .ok (.lastore, 1) := by decide +kernel
theorem dL_openLettersOf_9 : decode cL_openLettersOf 9 = .ok (.goto 6, 3) := by decide +kernel
theorem dL_openLettersOf_12 : decode cL_openLettersOf 12 = .ok (.astore_n 3, 1) := by decide +kernel
theorem dL_openLettersOf_13 : decode cL_openLettersOf 13 = .ok (.iconst 1, 1) := by decide +kernel
theorem dL_openLettersOf_14 : decode cL_openLettersOf 14 = .ok (.ireturn, 1) := by decide +kernel
theorem dL_openLettersOf_15 : decode cL_openLettersOf 15 = .ok (.iconst 0, 1) := by decide +kernel
theorem dL_openLettersOf_16 : decode cL_openLettersOf 16 = .ok (.ireturn, 1) := by decide +kernel
theorem dL_workOf_0 : decode cL_workOf 0 = .ok (.aload_n 2, 1) := by decide +kernel
theorem dL_workOf_1 : decode cL_workOf 1 = .ok (.iconst 0, 1) := by decide +kernel
theorem dL_workOf_2 : decode cL_workOf 2 = .ok (.aload_n 0, 1) := by decide +kernel
theorem dL_workOf_3 : decode cL_workOf 3 = .ok (.iload_n 1, 1) := by decide +kernel
theorem dL_workOf_4 : decode cL_workOf 4 = .ok (.invokevirtual 73, 3) := by decide +kernel
theorem dL_workOf_7 : decode cL_workOf 7 = .ok (.i2l, 1) := by decide +kernel
theorem dL_workOf_8 : decode cL_workOf 8 = .ok (.lastore, 1) := by decide +kernel
theorem dL_workOf_9 : decode cL_workOf 9 = .ok (.goto 6, 3) := by decide +kernel
theorem dL_workOf_12 : decode cL_workOf 12 = .ok (.astore_n 3, 1) := by decide +kernel
theorem dL_workOf_13 : decode cL_workOf 13 = .ok (.iconst 1, 1) := by decide +kernel
theorem dL_workOf_14 : decode cL_workOf 14 = .ok (.ireturn, 1) := by decide +kernel
theorem dL_workOf_15 : decode cL_workOf 15 = .ok (.iconst 0, 1) := by decide +kernel
theorem dL_workOf_16 : decode cL_workOf 16 = .ok (.ireturn, 1) := by decide +kernel
theorem dL_greatestLateness_0 : decode cL_greatestLateness 0 = .ok (.aload_n 1, 1) := by decide +kernel
theorem dL_greatestLateness_1 : decode cL_greatestLateness 1 = .ok (.iconst 0, 1) := by decide +kernel
theorem dL_greatestLateness_2 : decode cL_greatestLateness 2 = .ok (.aload_n 0, 1) := by decide +kernel
theorem dL_greatestLateness_3 : decode cL_greatestLateness 3 = .ok (.invokevirtual 76, 3) := by decide +kernel
theorem dL_greatestLateness_6 : decode cL_greatestLateness 6 = .ok (.i2l, 1) := by decide +kernel
theorem dL_greatestLateness_7 : decode cL_greatestLateness 7 = .ok (.lastore, 1) := by decide +kernel
theorem dL_greatestLateness_8 : decode cL_greatestLateness 8 = .ok (.goto 6, 3) := by decide +kernel
theorem dL_greatestLateness_11 : decode cL_greatestLateness 11 = .ok (.astore_n 2, 1) := by decide +kernel
theorem dL_greatestLateness_12 : decode cL_greatestLateness 12 = .ok (.iconst 1, 1) := by decide +kernel
theorem dL_greatestLateness_13 : decode cL_greatestLateness 13 = .ok (.ireturn, 1) := by decide +kernel
theorem dL_greatestLateness_14 : decode cL_greatestLateness 14 = .ok (.iconst 0, 1) := by decide +kernel
theorem dL_greatestLateness_15 : decode cL_greatestLateness 15 = .ok (.ireturn, 1) := by decide +kernel
theorem dL_minutesToFinishLetter_0 : decode cL_minutesToFinishLetter 0 = .ok (.aload_n 2, 1) := by decide +kernel
theorem dL_minutesToFinishLetter_1 : decode cL_minutesToFinishLetter 1 = .ok (.iconst 0, 1) := by decide +kernel
theorem dL_minutesToFinishLetter_2 : decode cL_minutesToFinishLetter 2 = .ok (.aload_n 0, 1) := by decide +kernel
theorem dL_minutesToFinishLetter_3 : decode cL_minutesToFinishLetter 3 = .ok (.iload_n 1, 1) := by decide +kernel
theorem dL_minutesToFinishLetter_4 : decode cL_minutesToFinishLetter 4 = .ok (.invokevirtual 79, 3) := by decide +kernel
theorem dL_minutesToFinishLetter_7 : decode cL_minutesToFinishLetter 7 = .ok (.i2l, 1) := by decide +kernel
theorem dL_minutesToFinishLetter_8 : decode cL_minutesToFinishLetter 8 = .ok (.lastore, 1) := by decide +kernel
theorem dL_minutesToFinishLetter_9 : decode cL_minutesToFinishLetter 9 = .ok (.goto 6, 3) := by decide +kernel
theorem dL_minutesToFinishLetter_12 : decode cL_minutesToFinishLetter 12 = .ok (.astore_n 3, 1) := by decide +kernel
theorem dL_minutesToFinishLetter_13 : decode cL_minutesToFinishLetter 13 = .ok (.iconst 1, 1) := by decide +kernel
theorem dL_minutesToFinishLetter_14 : decode cL_minutesToFinishLetter 14 = .ok (.ireturn, 1) := by decide +kernel
theorem dL_minutesToFinishLetter_15 : decode cL_minutesToFinishLetter 15 = .ok (.iconst 0, 1) := by decide +kernel
theorem dL_minutesToFinishLetter_16 : decode cL_minutesToFinishLetter 16 = .ok (.ireturn, 1) := by decide +kernel
theorem dL_letterWrittenIn_0 : decode cL_letterWrittenIn 0 = .ok (.aload_n 2, 1) := by decide +kernel
theorem dL_letterWrittenIn_1 : decode cL_letterWrittenIn 1 = .ok (.iconst 0, 1) := by decide +kernel
theorem dL_letterWrittenIn_2 : decode cL_letterWrittenIn 2 = .ok (.aload_n 0, 1) := by decide +kernel
theorem dL_letterWrittenIn_3 : decode cL_letterWrittenIn 3 = .ok (.iload_n 1, 1) := by decide +kernel
theorem dL_letterWrittenIn_4 : decode cL_letterWrittenIn 4 = .ok (.invokevirtual 82, 3) := by decide +kernel
theorem dL_letterWrittenIn_7 : decode cL_letterWrittenIn 7 = .ok (.i2l, 1) := by decide +kernel
theorem dL_letterWrittenIn_8 : decode cL_letterWrittenIn 8 = .ok (.lastore, 1) := by decide +kernel
theorem dL_letterWrittenIn_9 : decode cL_letterWrittenIn 9 = .ok (.goto 6, 3) := by decide +kernel
theorem dL_letterWrittenIn_12 : decode cL_letterWrittenIn 12 = .ok (.astore_n 3, 1) := by decide +kernel
theorem dL_letterWrittenIn_13 : decode cL_letterWrittenIn 13 = .ok (.iconst 1, 1) := by decide +kernel
theorem dL_letterWrittenIn_14 : decode cL_letterWrittenIn 14 = .ok (.ireturn, 1) := by decide +kernel
theorem dL_letterWrittenIn_15 : decode cL_letterWrittenIn 15 = .ok (.iconst 0, 1) := by decide +kernel
theorem dL_letterWrittenIn_16 : decode cL_letterWrittenIn 16 = .ok (.ireturn, 1) := by decide +kernel
theorem dL_lateWith_0 : decode cL_lateWith 0 = .ok (.aload_n 2, 1) := by decide +kernel
theorem dL_lateWith_1 : decode cL_lateWith 1 = .ok (.iconst 0, 1) := by decide +kernel
theorem dL_lateWith_2 : decode cL_lateWith 2 = .ok (.aload_n 0, 1) := by decide +kernel
theorem dL_lateWith_3 : decode cL_lateWith 3 = .ok (.iload_n 1, 1) := by decide +kernel
theorem dL_lateWith_4 : decode cL_lateWith 4 = .ok (.invokevirtual 85, 3) := by decide +kernel
theorem dL_lateWith_7 : decode cL_lateWith 7 = .ok (.i2l, 1) := by decide +kernel
theorem dL_lateWith_8 : decode cL_lateWith 8 = .ok (.lastore, 1) := by decide +kernel
theorem dL_lateWith_9 : decode cL_lateWith 9 = .ok (.goto 6, 3) := by decide +kernel
theorem dL_lateWith_12 : decode cL_lateWith 12 = .ok (.astore_n 3, 1) := by decide +kernel
theorem dL_lateWith_13 : decode cL_lateWith 13 = .ok (.iconst 1, 1) := by decide +kernel
theorem dL_lateWith_14 : decode cL_lateWith 14 = .ok (.ireturn, 1) := by decide +kernel
theorem dL_lateWith_15 : decode cL_lateWith 15 = .ok (.iconst 0, 1) := by decide +kernel
theorem dL_lateWith_16 : decode cL_lateWith 16 = .ok (.ireturn, 1) := by decide +kernel
theorem dL_waitingWith_0 : decode cL_waitingWith 0 = .ok (.aload_n 2, 1) := by decide +kernel
theorem dL_waitingWith_1 : decode cL_waitingWith 1 = .ok (.iconst 0, 1) := by decide +kernel
theorem dL_waitingWith_2 : decode cL_waitingWith 2 = .ok (.aload_n 0, 1) := by decide +kernel
theorem dL_waitingWith_3 : decode cL_waitingWith 3 = .ok (.iload_n 1, 1) := by decide +kernel
theorem dL_waitingWith_4 : decode cL_waitingWith 4 = .ok (.invokevirtual 88, 3) := by decide +kernel
theorem dL_waitingWith_7 : decode cL_waitingWith 7 = .ok (.i2l, 1) := by decide +kernel
theorem dL_waitingWith_8 : decode cL_waitingWith 8 = .ok (.lastore, 1) := by decide +kernel
theorem dL_waitingWith_9 : decode cL_waitingWith 9 = .ok (.goto 6, 3) := by decide +kernel
theorem dL_waitingWith_12 : decode cL_waitingWith 12 = .ok (.astore_n 3, 1) := by decide +kernel
theorem dL_waitingWith_13 : decode cL_waitingWith 13 = .ok (.iconst 1, 1) := by decide +kernel
theorem dL_waitingWith_14 : decode cL_waitingWith 14 = .ok (.ireturn, 1) := by decide +kernel
theorem dL_waitingWith_15 : decode cL_waitingWith 15 = .ok (.iconst 0, 1) := by decide +kernel
theorem dL_waitingWith_16 : decode cL_waitingWith 16 = .ok (.ireturn, 1) := by decide +kernel
theorem dL_addLetter_0 : decode cL_addLetter 0 = .ok (.aload 6, 2) := by decide +kernel
theorem dL_addLetter_2 : decode cL_addLetter 2 = .ok (.iconst 0, 1) := by decide +kernel
theorem dL_addLetter_3 : decode cL_addLetter 3 = .ok (.aload_n 0, 1) := by decide +kernel
theorem dL_addLetter_4 : decode cL_addLetter 4 = .ok (.iload_n 1, 1) := by decide +kernel
theorem dL_addLetter_5 : decode cL_addLetter 5 = .ok (.iload_n 2, 1) := by decide +kernel
theorem dL_addLetter_6 : decode cL_addLetter 6 = .ok (.iload_n 3, 1) := by decide +kernel
theorem dL_addLetter_7 : decode cL_addLetter 7 = .ok (.iload 4, 2) := by decide +kernel
theorem dL_addLetter_9 : decode cL_addLetter 9 = .ok (.iload 5, 2) := by decide +kernel
theorem dL_addLetter_11 : decode cL_addLetter 11 = .ok (.invokevirtual 91, 3) := by decide +kernel
theorem dL_addLetter_14 : decode cL_addLetter 14 = .ok (.i2l, 1) := by decide +kernel
theorem dL_addLetter_15 : decode cL_addLetter 15 = .ok (.lastore, 1) := by decide +kernel
theorem dL_addLetter_16 : decode cL_addLetter 16 = .ok (.goto 15, 3) := by decide +kernel
theorem dL_addLetter_19 : decode cL_addLetter 19 = .ok (.astore 7, 2) := by decide +kernel
theorem dL_addLetter_21 : decode cL_addLetter 21 = .ok (.iconst 1, 1) := by decide +kernel
theorem dL_addLetter_22 : decode cL_addLetter 22 = .ok (.ireturn, 1) := by decide +kernel
theorem dL_addLetter_23 : decode cL_addLetter 23 = .ok (.astore 7, 2) := by decide +kernel
theorem dL_addLetter_25 : decode cL_addLetter 25 = .ok (.iconst 2, 1) := by decide +kernel
theorem dL_addLetter_26 : decode cL_addLetter 26 = .ok (.ireturn, 1) := by decide +kernel
theorem dL_addLetter_27 : decode cL_addLetter 27 = .ok (.astore 7, 2) := by decide +kernel
theorem dL_addLetter_29 : decode cL_addLetter 29 = .ok (.iconst 3, 1) := by decide +kernel
theorem dL_addLetter_30 : decode cL_addLetter 30 = .ok (.ireturn, 1) := by decide +kernel
theorem dL_addLetter_31 : decode cL_addLetter 31 = .ok (.iconst 0, 1) := by decide +kernel
theorem dL_addLetter_32 : decode cL_addLetter 32 = .ok (.ireturn, 1) := by decide +kernel
theorem dL_pass_0 : decode cL_pass 0 = .ok (.aload_n 2, 1) := by decide +kernel
theorem dL_pass_1 : decode cL_pass 1 = .ok (.iconst 0, 1) := by decide +kernel
theorem dL_pass_2 : decode cL_pass 2 = .ok (.aload_n 0, 1) := by decide +kernel
theorem dL_pass_3 : decode cL_pass 3 = .ok (.iload_n 1, 1) := by decide +kernel
theorem dL_pass_4 : decode cL_pass 4 = .ok (.invokevirtual 94, 3) := by decide +kernel
theorem dL_pass_7 : decode cL_pass 7 = .ok (.i2l, 1) := by decide +kernel
theorem dL_pass_8 : decode cL_pass 8 = .ok (.lastore, 1) := by decide +kernel
theorem dL_pass_9 : decode cL_pass 9 = .ok (.goto 9, 3) := by decide +kernel
theorem dL_pass_12 : decode cL_pass 12 = .ok (.astore_n 3, 1) := by decide +kernel
theorem dL_pass_13 : decode cL_pass 13 = .ok (.iconst 1, 1) := by decide +kernel
theorem dL_pass_14 : decode cL_pass 14 = .ok (.ireturn, 1) := by decide +kernel
theorem dL_pass_15 : decode cL_pass 15 = .ok (.astore_n 3, 1) := by decide +kernel
theorem dL_pass_16 : decode cL_pass 16 = .ok (.iconst 2, 1) := by decide +kernel
theorem dL_pass_17 : decode cL_pass 17 = .ok (.ireturn, 1) := by decide +kernel
theorem dL_pass_18 : decode cL_pass 18 = .ok (.iconst 0, 1) := by decide +kernel
theorem dL_pass_19 : decode cL_pass 19 = .ok (.ireturn, 1) := by decide +kernel
theorem dL_setPolicy_0 : decode cL_setPolicy 0 = .ok (.aload_n 2, 1) := by decide +kernel
theorem dL_setPolicy_1 : decode cL_setPolicy 1 = .ok (.iconst 0, 1) := by decide +kernel
theorem dL_setPolicy_2 : decode cL_setPolicy 2 = .ok (.aload_n 0, 1) := by decide +kernel
theorem dL_setPolicy_3 : decode cL_setPolicy 3 = .ok (.iload_n 1, 1) := by decide +kernel
theorem dL_setPolicy_4 : decode cL_setPolicy 4 = .ok (.invokevirtual 97, 3) := by decide +kernel
theorem dL_setPolicy_7 : decode cL_setPolicy 7 = .ok (.i2l, 1) := by decide +kernel
theorem dL_setPolicy_8 : decode cL_setPolicy 8 = .ok (.lastore, 1) := by decide +kernel
theorem dL_setPolicy_9 : decode cL_setPolicy 9 = .ok (.goto 6, 3) := by decide +kernel
theorem dL_setPolicy_12 : decode cL_setPolicy 12 = .ok (.astore_n 3, 1) := by decide +kernel
theorem dL_setPolicy_13 : decode cL_setPolicy 13 = .ok (.iconst 1, 1) := by decide +kernel
theorem dL_setPolicy_14 : decode cL_setPolicy 14 = .ok (.ireturn, 1) := by decide +kernel
theorem dL_setPolicy_15 : decode cL_setPolicy 15 = .ok (.iconst 0, 1) := by decide +kernel
theorem dL_setPolicy_16 : decode cL_setPolicy 16 = .ok (.ireturn, 1) := by decide +kernel
theorem dL_setDeadline_0 : decode cL_setDeadline 0 = .ok (.aload_n 3, 1) := by decide +kernel
theorem dL_setDeadline_1 : decode cL_setDeadline 1 = .ok (.iconst 0, 1) := by decide +kernel
theorem dL_setDeadline_2 : decode cL_setDeadline 2 = .ok (.aload_n 0, 1) := by decide +kernel
theorem dL_setDeadline_3 : decode cL_setDeadline 3 = .ok (.iload_n 1, 1) := by decide +kernel
theorem dL_setDeadline_4 : decode cL_setDeadline 4 = .ok (.iload_n 2, 1) := by decide +kernel
theorem dL_setDeadline_5 : decode cL_setDeadline 5 = .ok (.invokevirtual 100, 3) := by decide +kernel
theorem dL_setDeadline_8 : decode cL_setDeadline 8 = .ok (.i2l, 1) := by decide +kernel
theorem dL_setDeadline_9 : decode cL_setDeadline 9 = .ok (.lastore, 1) := by decide +kernel
theorem dL_setDeadline_10 : decode cL_setDeadline 10 = .ok (.goto 11, 3) := by decide +kernel
theorem dL_setDeadline_13 : decode cL_setDeadline 13 = .ok (.astore 4, 2) := by decide +kernel
theorem dL_setDeadline_15 : decode cL_setDeadline 15 = .ok (.iconst 1, 1) := by decide +kernel
theorem dL_setDeadline_16 : decode cL_setDeadline 16 = .ok (.ireturn, 1) := by decide +kernel
theorem dL_setDeadline_17 : decode cL_setDeadline 17 = .ok (.astore 4, 2) := by decide +kernel
theorem dL_setDeadline_19 : decode cL_setDeadline 19 = .ok (.iconst 2, 1) := by decide +kernel
theorem dL_setDeadline_20 : decode cL_setDeadline 20 = .ok (.ireturn, 1) := by decide +kernel
theorem dL_setDeadline_21 : decode cL_setDeadline 21 = .ok (.iconst 0, 1) := by decide +kernel
theorem dL_setDeadline_22 : decode cL_setDeadline 22 = .ok (.ireturn, 1) := by decide +kernel
theorem dL_setPriority_0 : decode cL_setPriority 0 = .ok (.aload_n 3, 1) := by decide +kernel
theorem dL_setPriority_1 : decode cL_setPriority 1 = .ok (.iconst 0, 1) := by decide +kernel
theorem dL_setPriority_2 : decode cL_setPriority 2 = .ok (.aload_n 0, 1) := by decide +kernel
theorem dL_setPriority_3 : decode cL_setPriority 3 = .ok (.iload_n 1, 1) := by decide +kernel
theorem dL_setPriority_4 : decode cL_setPriority 4 = .ok (.iload_n 2, 1) := by decide +kernel
theorem dL_setPriority_5 : decode cL_setPriority 5 = .ok (.invokevirtual 103, 3) := by decide +kernel
theorem dL_setPriority_8 : decode cL_setPriority 8 = .ok (.i2l, 1) := by decide +kernel
theorem dL_setPriority_9 : decode cL_setPriority 9 = .ok (.lastore, 1) := by decide +kernel
theorem dL_setPriority_10 : decode cL_setPriority 10 = .ok (.goto 11, 3) := by decide +kernel
theorem dL_setPriority_13 : decode cL_setPriority 13 = .ok (.astore 4, 2) := by decide +kernel
theorem dL_setPriority_15 : decode cL_setPriority 15 = .ok (.iconst 1, 1) := by decide +kernel
theorem dL_setPriority_16 : decode cL_setPriority 16 = .ok (.ireturn, 1) := by decide +kernel
theorem dL_setPriority_17 : decode cL_setPriority 17 = .ok (.astore 4, 2) := by decide +kernel
theorem dL_setPriority_19 : decode cL_setPriority 19 = .ok (.iconst 2, 1) := by decide +kernel
theorem dL_setPriority_20 : decode cL_setPriority 20 = .ok (.ireturn, 1) := by decide +kernel
theorem dL_setPriority_21 : decode cL_setPriority 21 = .ok (.iconst 0, 1) := by decide +kernel
theorem dL_setPriority_22 : decode cL_setPriority 22 = .ok (.ireturn, 1) := by decide +kernel
theorem dL_extend_0 : decode cL_extend 0 = .ok (.aload_n 3, 1) := by decide +kernel
theorem dL_extend_1 : decode cL_extend 1 = .ok (.iconst 0, 1) := by decide +kernel
theorem dL_extend_2 : decode cL_extend 2 = .ok (.aload_n 0, 1) := by decide +kernel
theorem dL_extend_3 : decode cL_extend 3 = .ok (.iload_n 1, 1) := by decide +kernel
theorem dL_extend_4 : decode cL_extend 4 = .ok (.iload_n 2, 1) := by decide +kernel
theorem dL_extend_5 : decode cL_extend 5 = .ok (.invokevirtual 106, 3) := by decide +kernel
theorem dL_extend_8 : decode cL_extend 8 = .ok (.i2l, 1) := by decide +kernel
theorem dL_extend_9 : decode cL_extend 9 = .ok (.lastore, 1) := by decide +kernel
theorem dL_extend_10 : decode cL_extend 10 = .ok (.goto 15, 3) := by decide +kernel
theorem dL_extend_13 : decode cL_extend 13 = .ok (.astore 4, 2) := by decide +kernel
theorem dL_extend_15 : decode cL_extend 15 = .ok (.iconst 1, 1) := by decide +kernel
theorem dL_extend_16 : decode cL_extend 16 = .ok (.ireturn, 1) := by decide +kernel
theorem dL_extend_17 : decode cL_extend 17 = .ok (.astore 4, 2) := by decide +kernel
theorem dL_extend_19 : decode cL_extend 19 = .ok (.iconst 2, 1) := by decide +kernel
theorem dL_extend_20 : decode cL_extend 20 = .ok (.ireturn, 1) := by decide +kernel
theorem dL_extend_21 : decode cL_extend 21 = .ok (.astore 4, 2) := by decide +kernel
theorem dL_extend_23 : decode cL_extend 23 = .ok (.iconst 3, 1) := by decide +kernel
theorem dL_extend_24 : decode cL_extend 24 = .ok (.ireturn, 1) := by decide +kernel
theorem dL_extend_25 : decode cL_extend 25 = .ok (.iconst 0, 1) := by decide +kernel
theorem dL_extend_26 : decode cL_extend 26 = .ok (.ireturn, 1) := by decide +kernel
theorem dL_discard_0 : decode cL_discard 0 = .ok (.aload_n 2, 1) := by decide +kernel
theorem dL_discard_1 : decode cL_discard 1 = .ok (.iconst 0, 1) := by decide +kernel
theorem dL_discard_2 : decode cL_discard 2 = .ok (.aload_n 0, 1) := by decide +kernel
theorem dL_discard_3 : decode cL_discard 3 = .ok (.iload_n 1, 1) := by decide +kernel
theorem dL_discard_4 : decode cL_discard 4 = .ok (.invokevirtual 109, 3) := by decide +kernel
theorem dL_discard_7 : decode cL_discard 7 = .ok (.i2l, 1) := by decide +kernel
theorem dL_discard_8 : decode cL_discard 8 = .ok (.lastore, 1) := by decide +kernel
theorem dL_discard_9 : decode cL_discard 9 = .ok (.goto 9, 3) := by decide +kernel
theorem dL_discard_12 : decode cL_discard 12 = .ok (.astore_n 3, 1) := by decide +kernel
theorem dL_discard_13 : decode cL_discard 13 = .ok (.iconst 1, 1) := by decide +kernel
theorem dL_discard_14 : decode cL_discard 14 = .ok (.ireturn, 1) := by decide +kernel
theorem dL_discard_15 : decode cL_discard 15 = .ok (.astore_n 3, 1) := by decide +kernel
theorem dL_discard_16 : decode cL_discard 16 = .ok (.iconst 2, 1) := by decide +kernel
theorem dL_discard_17 : decode cL_discard 17 = .ok (.ireturn, 1) := by decide +kernel
theorem dL_discard_18 : decode cL_discard 18 = .ok (.iconst 0, 1) := by decide +kernel
theorem dL_discard_19 : decode cL_discard 19 = .ok (.ireturn, 1) := by decide +kernel
theorem dL_runScript_0 : decode cL_runScript 0 = .ok (.aload_n 1, 1) := by decide +kernel
theorem dL_runScript_1 : decode cL_runScript 1 = .ok (.iconst 0, 1) := by decide +kernel
theorem dL_runScript_2 : decode cL_runScript 2 = .ok (.aload_n 0, 1) := by decide +kernel
theorem dL_runScript_3 : decode cL_runScript 3 = .ok (.invokevirtual 112, 3) := by decide +kernel
theorem dL_runScript_6 : decode cL_runScript 6 = .ok (.i2l, 1) := by decide +kernel
theorem dL_runScript_7 : decode cL_runScript 7 = .ok (.lastore, 1) := by decide +kernel
theorem dL_runScript_8 : decode cL_runScript 8 = .ok (.goto 6, 3) := by decide +kernel
theorem dL_runScript_11 : decode cL_runScript 11 = .ok (.astore_n 2, 1) := by decide +kernel
theorem dL_runScript_12 : decode cL_runScript 12 = .ok (.iconst 1, 1) := by decide +kernel
theorem dL_runScript_13 : decode cL_runScript 13 = .ok (.ireturn, 1) := by decide +kernel
theorem dL_runScript_14 : decode cL_runScript 14 = .ok (.iconst 0, 1) := by decide +kernel
theorem dL_runScript_15 : decode cL_runScript 15 = .ok (.ireturn, 1) := by decide +kernel
theorem dL_undo_0 : decode cL_undo 0 = .ok (.aload_n 1, 1) := by decide +kernel
theorem dL_undo_1 : decode cL_undo 1 = .ok (.iconst 0, 1) := by decide +kernel
theorem dL_undo_2 : decode cL_undo 2 = .ok (.aload_n 0, 1) := by decide +kernel
theorem dL_undo_3 : decode cL_undo 3 = .ok (.invokevirtual 115, 3) := by decide +kernel
theorem dL_undo_6 : decode cL_undo 6 = .ok (.i2l, 1) := by decide +kernel
theorem dL_undo_7 : decode cL_undo 7 = .ok (.lastore, 1) := by decide +kernel
theorem dL_undo_8 : decode cL_undo 8 = .ok (.goto 6, 3) := by decide +kernel
theorem dL_undo_11 : decode cL_undo 11 = .ok (.astore_n 2, 1) := by decide +kernel
theorem dL_undo_12 : decode cL_undo 12 = .ok (.iconst 1, 1) := by decide +kernel
theorem dL_undo_13 : decode cL_undo 13 = .ok (.ireturn, 1) := by decide +kernel
theorem dL_undo_14 : decode cL_undo 14 = .ok (.iconst 0, 1) := by decide +kernel
theorem dL_undo_15 : decode cL_undo 15 = .ok (.ireturn, 1) := by decide +kernel
theorem dL_save_0 : decode cL_save 0 = .ok (.aload_n 2, 1) := by decide +kernel
theorem dL_save_1 : decode cL_save 1 = .ok (.iconst 0, 1) := by decide +kernel
theorem dL_save_2 : decode cL_save 2 = .ok (.aload_n 0, 1) := by decide +kernel
theorem dL_save_3 : decode cL_save 3 = .ok (.iload_n 1, 1) := by decide +kernel
theorem dL_save_4 : decode cL_save 4 = .ok (.invokevirtual 118, 3) := by decide +kernel
theorem dL_save_7 : decode cL_save 7 = .ok (.i2l, 1) := by decide +kernel
theorem dL_save_8 : decode cL_save 8 = .ok (.lastore, 1) := by decide +kernel
theorem dL_save_9 : decode cL_save 9 = .ok (.goto 6, 3) := by decide +kernel
theorem dL_save_12 : decode cL_save 12 = .ok (.astore_n 3, 1) := by decide +kernel
theorem dL_save_13 : decode cL_save 13 = .ok (.iconst 1, 1) := by decide +kernel
theorem dL_save_14 : decode cL_save 14 = .ok (.ireturn, 1) := by decide +kernel
theorem dL_save_15 : decode cL_save 15 = .ok (.iconst 0, 1) := by decide +kernel
theorem dL_save_16 : decode cL_save 16 = .ok (.ireturn, 1) := by decide +kernel
theorem dL_restore_0 : decode cL_restore 0 = .ok (.aload_n 2, 1) := by decide +kernel
theorem dL_restore_1 : decode cL_restore 1 = .ok (.iconst 0, 1) := by decide +kernel
theorem dL_restore_2 : decode cL_restore 2 = .ok (.aload_n 0, 1) := by decide +kernel
theorem dL_restore_3 : decode cL_restore 3 = .ok (.iload_n 1, 1) := by decide +kernel
theorem dL_restore_4 : decode cL_restore 4 = .ok (.invokevirtual 121, 3) := by decide +kernel
theorem dL_restore_7 : decode cL_restore 7 = .ok (.i2l, 1) := by decide +kernel
theorem dL_restore_8 : decode cL_restore 8 = .ok (.lastore, 1) := by decide +kernel
theorem dL_restore_9 : decode cL_restore 9 = .ok (.goto 9, 3) := by decide +kernel
theorem dL_restore_12 : decode cL_restore 12 = .ok (.astore_n 3, 1) := by decide +kernel
theorem dL_restore_13 : decode cL_restore 13 = .ok (.iconst 1, 1) := by decide +kernel
theorem dL_restore_14 : decode cL_restore 14 = .ok (.ireturn, 1) := by decide +kernel
theorem dL_restore_15 : decode cL_restore 15 = .ok (.astore_n 3, 1) := by decide +kernel
theorem dL_restore_16 : decode cL_restore 16 = .ok (.iconst 2, 1) := by decide +kernel
theorem dL_restore_17 : decode cL_restore 17 = .ok (.ireturn, 1) := by decide +kernel
theorem dL_restore_18 : decode cL_restore 18 = .ok (.iconst 0, 1) := by decide +kernel
theorem dL_restore_19 : decode cL_restore 19 = .ok (.ireturn, 1) := by decide +kernel
theorem dL_outputByte_0 : decode cL_outputByte 0 = .ok (.aload_n 2, 1) := by decide +kernel
theorem dL_outputByte_1 : decode cL_outputByte 1 = .ok (.iconst 0, 1) := by decide +kernel
theorem dL_outputByte_2 : decode cL_outputByte 2 = .ok (.aload_n 0, 1) := by decide +kernel
theorem dL_outputByte_3 : decode cL_outputByte 3 = .ok (.iload_n 1, 1) := by decide +kernel
theorem dL_outputByte_4 : decode cL_outputByte 4 = .ok (.invokevirtual 124, 3) := by decide +kernel
theorem dL_outputByte_7 : decode cL_outputByte 7 = .ok (.i2l, 1) := by decide +kernel
theorem dL_outputByte_8 : decode cL_outputByte 8 = .ok (.lastore, 1) := by decide +kernel
theorem dL_outputByte_9 : decode cL_outputByte 9 = .ok (.goto 6, 3) := by decide +kernel
theorem dL_outputByte_12 : decode cL_outputByte 12 = .ok (.astore_n 3, 1) := by decide +kernel
theorem dL_outputByte_13 : decode cL_outputByte 13 = .ok (.iconst 1, 1) := by decide +kernel
theorem dL_outputByte_14 : decode cL_outputByte 14 = .ok (.ireturn, 1) := by decide +kernel
theorem dL_outputByte_15 : decode cL_outputByte 15 = .ok (.iconst 0, 1) := by decide +kernel
theorem dL_outputByte_16 : decode cL_outputByte 16 = .ok (.ireturn, 1) := by decide +kernel
theorem dL_law_0 : decode cL_law 0 = .ok (.new 8, 3) := by decide +kernel
theorem dL_law_3 : decode cL_law 3 = .ok (.dup, 1) := by decide +kernel
theorem dL_law_4 : decode cL_law 4 = .ok (.invokespecial 127, 3) := by decide +kernel
theorem dL_law_7 : decode cL_law 7 = .ok (.astore_n 1, 1) := by decide +kernel
theorem dL_law_8 : decode cL_law 8 = .ok (.new 128, 3) := by decide +kernel
theorem dL_law_11 : decode cL_law 11 = .ok (.dup, 1) := by decide +kernel
theorem dL_law_12 : decode cL_law 12 = .ok (.invokespecial 130, 3) := by decide +kernel
theorem dL_law_15 : decode cL_law 15 = .ok (.astore_n 2, 1) := by decide +kernel
theorem dL_law_16 : decode cL_law 16 = .ok (.iconst 1, 1) := by decide +kernel
theorem dL_law_17 : decode cL_law 17 = .ok (.newarray .long, 2) := by decide +kernel
theorem dL_law_19 : decode cL_law 19 = .ok (.astore_n 3, 1) := by decide +kernel
theorem dL_law_20 : decode cL_law 20 = .ok (.iconst 0, 1) := by decide +kernel
theorem dL_law_21 : decode cL_law 21 = .ok (.istore 4, 2) := by decide +kernel
theorem dL_law_23 : decode cL_law 23 = .ok (.iload 4, 2) := by decide +kernel
theorem dL_law_25 : decode cL_law 25 = .ok (.aload_n 0, 1) := by decide +kernel
theorem dL_law_26 : decode cL_law 26 = .ok (.arraylength, 1) := by decide +kernel
theorem dL_law_27 : decode cL_law 27 = .ok (.bipush 6, 2) := by decide +kernel
theorem dL_law_29 : decode cL_law 29 = .ok (.isub, 1) := by decide +kernel
theorem dL_law_30 : decode cL_law 30 = .ok (.if_icmp .gt 2774, 3) := by decide +kernel
theorem dL_law_33 : decode cL_law 33 = .ok (.aload_n 0, 1) := by decide +kernel
theorem dL_law_34 : decode cL_law 34 = .ok (.iload 4, 2) := by decide +kernel
theorem dL_law_36 : decode cL_law 36 = .ok (.iaload, 1) := by decide +kernel
theorem dL_law_37 : decode cL_law 37 = .ok (.bipush 63, 2) := by decide +kernel
theorem dL_law_39 : decode cL_law 39 = .ok (.iand, 1) := by decide +kernel
theorem dL_law_40 : decode cL_law 40 = .ok (.tableswitch 2758 0 63 #[272, 376, 432, 476, 489, 502, 515, 528, 541, 554, 567, 580, 593, 606, 619, 632, 645, 713, 757, 813, 869, 925, 981, 1037, 1093, 1149, 1205, 1261, 1324, 1337, 1350, 1406, 1462, 1518, 1531, 1544, 1557, 1601, 1614, 1627, 1640, 1653, 1696, 1737, 1750, 1763, 1819, 1875, 1931, 1987, 2000, 2013, 2117, 2173, 2229, 2297, 2365, 2433, 2489, 2533, 2577, 2633, 2689, 2702], 272) := by decide +kernel
theorem dL_law_312 : decode cL_law 312 = .ok (.aload_n 1, 1) := by decide +kernel
theorem dL_law_313 : decode cL_law 313 = .ok (.aload_n 0, 1) := by decide +kernel
theorem dL_law_314 : decode cL_law 314 = .ok (.iload 4, 2) := by decide +kernel
theorem dL_law_316 : decode cL_law 316 = .ok (.iconst 1, 1) := by decide +kernel
theorem dL_law_317 : decode cL_law 317 = .ok (.iadd, 1) := by decide +kernel
theorem dL_law_318 : decode cL_law 318 = .ok (.iaload, 1) := by decide +kernel
theorem dL_law_319 : decode cL_law 319 = .ok (.aload_n 0, 1) := by decide +kernel
theorem dL_law_320 : decode cL_law 320 = .ok (.iload 4, 2) := by decide +kernel
theorem dL_law_322 : decode cL_law 322 = .ok (.iconst 2, 1) := by decide +kernel
theorem dL_law_323 : decode cL_law 323 = .ok (.iadd, 1) := by decide +kernel
theorem dL_law_324 : decode cL_law 324 = .ok (.iaload, 1) := by decide +kernel
theorem dL_law_325 : decode cL_law 325 = .ok (.aload_n 0, 1) := by decide +kernel
theorem dL_law_326 : decode cL_law 326 = .ok (.iload 4, 2) := by decide +kernel
theorem dL_law_328 : decode cL_law 328 = .ok (.iconst 3, 1) := by decide +kernel
theorem dL_law_329 : decode cL_law 329 = .ok (.iadd, 1) := by decide +kernel
theorem dL_law_330 : decode cL_law 330 = .ok (.iaload, 1) := by decide +kernel
theorem dL_law_331 : decode cL_law 331 = .ok (.aload_n 0, 1) := by decide +kernel
theorem dL_law_332 : decode cL_law 332 = .ok (.iload 4, 2) := by decide +kernel
theorem dL_law_334 : decode cL_law 334 = .ok (.iconst 4, 1) := by decide +kernel
theorem dL_law_335 : decode cL_law 335 = .ok (.iadd, 1) := by decide +kernel
theorem dL_law_336 : decode cL_law 336 = .ok (.iaload, 1) := by decide +kernel
theorem dL_law_337 : decode cL_law 337 = .ok (.aload_n 0, 1) := by decide +kernel
theorem dL_law_338 : decode cL_law 338 = .ok (.iload 4, 2) := by decide +kernel
theorem dL_law_340 : decode cL_law 340 = .ok (.iconst 5, 1) := by decide +kernel
theorem dL_law_341 : decode cL_law 341 = .ok (.iadd, 1) := by decide +kernel
theorem dL_law_342 : decode cL_law 342 = .ok (.iaload, 1) := by decide +kernel
theorem dL_law_343 : decode cL_law 343 = .ok (.aload_n 3, 1) := by decide +kernel
theorem dL_law_344 : decode cL_law 344 = .ok (.invokestatic 131, 3) := by decide +kernel
theorem dL_law_347 : decode cL_law 347 = .ok (.istore 5, 2) := by decide +kernel
theorem dL_law_349 : decode cL_law 349 = .ok (.aload_n 2, 1) := by decide +kernel
theorem dL_law_350 : decode cL_law 350 = .ok (.aload_n 0, 1) := by decide +kernel
theorem dL_law_351 : decode cL_law 351 = .ok (.iload 4, 2) := by decide +kernel
theorem dL_law_353 : decode cL_law 353 = .ok (.iconst 1, 1) := by decide +kernel
theorem dL_law_354 : decode cL_law 354 = .ok (.iadd, 1) := by decide +kernel
theorem dL_law_355 : decode cL_law 355 = .ok (.iaload, 1) := by decide +kernel
theorem dL_law_356 : decode cL_law 356 = .ok (.aload_n 0, 1) := by decide +kernel
theorem dL_law_357 : decode cL_law 357 = .ok (.iload 4, 2) := by decide +kernel
theorem dL_law_359 : decode cL_law 359 = .ok (.iconst 2, 1) := by decide +kernel
theorem dL_law_360 : decode cL_law 360 = .ok (.iadd, 1) := by decide +kernel
theorem dL_law_361 : decode cL_law 361 = .ok (.iaload, 1) := by decide +kernel
theorem dL_law_362 : decode cL_law 362 = .ok (.aload_n 0, 1) := by decide +kernel
theorem dL_law_363 : decode cL_law 363 = .ok (.iload 4, 2) := by decide +kernel
theorem dL_law_365 : decode cL_law 365 = .ok (.iconst 3, 1) := by decide +kernel
theorem dL_law_366 : decode cL_law 366 = .ok (.iadd, 1) := by decide +kernel
theorem dL_law_367 : decode cL_law 367 = .ok (.iaload, 1) := by decide +kernel
theorem dL_law_368 : decode cL_law 368 = .ok (.aload_n 0, 1) := by decide +kernel
theorem dL_law_369 : decode cL_law 369 = .ok (.iload 4, 2) := by decide +kernel
theorem dL_law_371 : decode cL_law 371 = .ok (.iconst 4, 1) := by decide +kernel
theorem dL_law_372 : decode cL_law 372 = .ok (.iadd, 1) := by decide +kernel
theorem dL_law_373 : decode cL_law 373 = .ok (.iaload, 1) := by decide +kernel
theorem dL_law_374 : decode cL_law 374 = .ok (.aload_n 0, 1) := by decide +kernel
theorem dL_law_375 : decode cL_law 375 = .ok (.iload 4, 2) := by decide +kernel
theorem dL_law_377 : decode cL_law 377 = .ok (.iconst 5, 1) := by decide +kernel
theorem dL_law_378 : decode cL_law 378 = .ok (.iadd, 1) := by decide +kernel
theorem dL_law_379 : decode cL_law 379 = .ok (.iaload, 1) := by decide +kernel
theorem dL_law_380 : decode cL_law 380 = .ok (.invokevirtual 136, 3) := by decide +kernel
theorem dL_law_383 : decode cL_law 383 = .ok (.istore 6, 2) := by decide +kernel
theorem dL_law_385 : decode cL_law 385 = .ok (.aload_n 2, 1) := by decide +kernel
theorem dL_law_386 : decode cL_law 386 = .ok (.invokevirtual 137, 3) := by decide +kernel
theorem dL_law_389 : decode cL_law 389 = .ok (.iload 5, 2) := by decide +kernel
theorem dL_law_391 : decode cL_law 391 = .ok (.if_icmp .eq 5, 3) := by decide +kernel
theorem dL_law_394 : decode cL_law 394 = .ok (.iconst 0, 1) := by decide +kernel
theorem dL_law_395 : decode cL_law 395 = .ok (.ireturn, 1) := by decide +kernel
theorem dL_law_396 : decode cL_law 396 = .ok (.iload 5, 2) := by decide +kernel
theorem dL_law_398 : decode cL_law 398 = .ok (.ifCond .ne 15, 3) := by decide +kernel
theorem dL_law_401 : decode cL_law 401 = .ok (.aload_n 3, 1) := by decide +kernel
theorem dL_law_402 : decode cL_law 402 = .ok (.iconst 0, 1) := by decide +kernel
theorem dL_law_403 : decode cL_law 403 = .ok (.laload, 1) := by decide +kernel
theorem dL_law_404 : decode cL_law 404 = .ok (.iload 6, 2) := by decide +kernel
theorem dL_law_406 : decode cL_law 406 = .ok (.i2l, 1) := by decide +kernel
theorem dL_law_407 : decode cL_law 407 = .ok (.lcmp, 1) := by decide +kernel
theorem dL_law_408 : decode cL_law 408 = .ok (.ifCond .eq 5, 3) := by decide +kernel
theorem dL_law_411 : decode cL_law 411 = .ok (.iconst 0, 1) := by decide +kernel
theorem dL_law_412 : decode cL_law 412 = .ok (.ireturn, 1) := by decide +kernel
theorem dL_law_413 : decode cL_law 413 = .ok (.goto 2385, 3) := by decide +kernel
theorem dL_law_416 : decode cL_law 416 = .ok (.aload_n 1, 1) := by decide +kernel
theorem dL_law_417 : decode cL_law 417 = .ok (.aload_n 0, 1) := by decide +kernel
theorem dL_law_418 : decode cL_law 418 = .ok (.iload 4, 2) := by decide +kernel
theorem dL_law_420 : decode cL_law 420 = .ok (.iconst 1, 1) := by decide +kernel
theorem dL_law_421 : decode cL_law 421 = .ok (.iadd, 1) := by decide +kernel
theorem dL_law_422 : decode cL_law 422 = .ok (.iaload, 1) := by decide +kernel
theorem dL_law_423 : decode cL_law 423 = .ok (.aload_n 3, 1) := by decide +kernel
theorem dL_law_424 : decode cL_law 424 = .ok (.invokestatic 140, 3) := by decide +kernel
theorem dL_law_427 : decode cL_law 427 = .ok (.istore 5, 2) := by decide +kernel
theorem dL_law_429 : decode cL_law 429 = .ok (.aload_n 2, 1) := by decide +kernel
theorem dL_law_430 : decode cL_law 430 = .ok (.aload_n 0, 1) := by decide +kernel
theorem dL_law_431 : decode cL_law 431 = .ok (.iload 4, 2) := by decide +kernel
theorem dL_law_433 : decode cL_law 433 = .ok (.iconst 1, 1) := by decide +kernel
theorem dL_law_434 : decode cL_law 434 = .ok (.iadd, 1) := by decide +kernel
theorem dL_law_435 : decode cL_law 435 = .ok (.iaload, 1) := by decide +kernel
theorem dL_law_436 : decode cL_law 436 = .ok (.invokevirtual 143, 3) := by decide +kernel
theorem dL_law_439 : decode cL_law 439 = .ok (.istore 6, 2) := by decide +kernel
theorem dL_law_441 : decode cL_law 441 = .ok (.aload_n 2, 1) := by decide +kernel
theorem dL_law_442 : decode cL_law 442 = .ok (.invokevirtual 137, 3) := by decide +kernel
theorem dL_law_445 : decode cL_law 445 = .ok (.iload 5, 2) := by decide +kernel
theorem dL_law_447 : decode cL_law 447 = .ok (.if_icmp .eq 5, 3) := by decide +kernel
theorem dL_law_450 : decode cL_law 450 = .ok (.iconst 0, 1) := by decide +kernel
theorem dL_law_451 : decode cL_law 451 = .ok (.ireturn, 1) := by decide +kernel
theorem dL_law_452 : decode cL_law 452 = .ok (.iload 5, 2) := by decide +kernel
theorem dL_law_454 : decode cL_law 454 = .ok (.ifCond .ne 15, 3) := by decide +kernel
theorem dL_law_457 : decode cL_law 457 = .ok (.aload_n 3, 1) := by decide +kernel
theorem dL_law_458 : decode cL_law 458 = .ok (.iconst 0, 1) := by decide +kernel
theorem dL_law_459 : decode cL_law 459 = .ok (.laload, 1) := by decide +kernel
theorem dL_law_460 : decode cL_law 460 = .ok (.iload 6, 2) := by decide +kernel
theorem dL_law_462 : decode cL_law 462 = .ok (.i2l, 1) := by decide +kernel
theorem dL_law_463 : decode cL_law 463 = .ok (.lcmp, 1) := by decide +kernel
theorem dL_law_464 : decode cL_law 464 = .ok (.ifCond .eq 5, 3) := by decide +kernel
theorem dL_law_467 : decode cL_law 467 = .ok (.iconst 0, 1) := by decide +kernel
theorem dL_law_468 : decode cL_law 468 = .ok (.ireturn, 1) := by decide +kernel
theorem dL_law_469 : decode cL_law 469 = .ok (.goto 2329, 3) := by decide +kernel
theorem dL_law_472 : decode cL_law 472 = .ok (.aload_n 1, 1) := by decide +kernel
theorem dL_law_473 : decode cL_law 473 = .ok (.aload_n 3, 1) := by decide +kernel
theorem dL_law_474 : decode cL_law 474 = .ok (.invokestatic 144, 3) := by decide +kernel
theorem dL_law_477 : decode cL_law 477 = .ok (.istore 5, 2) := by decide +kernel
theorem dL_law_479 : decode cL_law 479 = .ok (.aload_n 2, 1) := by decide +kernel
theorem dL_law_480 : decode cL_law 480 = .ok (.invokevirtual 147, 3) := by decide +kernel
theorem dL_law_483 : decode cL_law 483 = .ok (.istore 6, 2) := by decide +kernel
theorem dL_law_485 : decode cL_law 485 = .ok (.aload_n 2, 1) := by decide +kernel
theorem dL_law_486 : decode cL_law 486 = .ok (.invokevirtual 137, 3) := by decide +kernel
theorem dL_law_489 : decode cL_law 489 = .ok (.iload 5, 2) := by decide +kernel
theorem dL_law_491 : decode cL_law 491 = .ok (.if_icmp .eq 5, 3) := by decide +kernel
theorem dL_law_494 : decode cL_law 494 = .ok (.iconst 0, 1) := by decide +kernel
theorem dL_law_495 : decode cL_law 495 = .ok (.ireturn, 1) := by decide +kernel
theorem dL_law_496 : decode cL_law 496 = .ok (.iload 5, 2) := by decide +kernel
theorem dL_law_498 : decode cL_law 498 = .ok (.ifCond .ne 15, 3) := by decide +kernel
theorem dL_law_501 : decode cL_law 501 = .ok (.aload_n 3, 1) := by decide +kernel
theorem dL_law_502 : decode cL_law 502 = .ok (.iconst 0, 1) := by decide +kernel
theorem dL_law_503 : decode cL_law 503 = .ok (.laload, 1) := by decide +kernel
theorem dL_law_504 : decode cL_law 504 = .ok (.iload 6, 2) := by decide +kernel
theorem dL_law_506 : decode cL_law 506 = .ok (.i2l, 1) := by decide +kernel
theorem dL_law_507 : decode cL_law 507 = .ok (.lcmp, 1) := by decide +kernel
theorem dL_law_508 : decode cL_law 508 = .ok (.ifCond .eq 5, 3) := by decide +kernel
theorem dL_law_511 : decode cL_law 511 = .ok (.iconst 0, 1) := by decide +kernel
theorem dL_law_512 : decode cL_law 512 = .ok (.ireturn, 1) := by decide +kernel
theorem dL_law_513 : decode cL_law 513 = .ok (.goto 2285, 3) := by decide +kernel
theorem dL_law_516 : decode cL_law 516 = .ok (.aload_n 1, 1) := by decide +kernel
theorem dL_law_517 : decode cL_law 517 = .ok (.invokevirtual 148, 3) := by decide +kernel
theorem dL_law_520 : decode cL_law 520 = .ok (.aload_n 2, 1) := by decide +kernel
theorem dL_law_521 : decode cL_law 521 = .ok (.invokevirtual 151, 3) := by decide +kernel
theorem dL_law_524 : decode cL_law 524 = .ok (.if_icmp .eq 2274, 3) := by decide +kernel
theorem dL_law_527 : decode cL_law 527 = .ok (.iconst 0, 1) := by decide +kernel
theorem dL_law_528 : decode cL_law 528 = .ok (.ireturn, 1) := by decide +kernel
theorem dL_law_529 : decode cL_law 529 = .ok (.aload_n 1, 1) := by decide +kernel
theorem dL_law_530 : decode cL_law 530 = .ok (.invokevirtual 152, 3) := by decide +kernel
theorem dL_law_533 : decode cL_law 533 = .ok (.aload_n 2, 1) := by decide +kernel
theorem dL_law_534 : decode cL_law 534 = .ok (.invokevirtual 155, 3) := by decide +kernel
theorem dL_law_537 : decode cL_law 537 = .ok (.if_icmp .eq 2261, 3) := by decide +kernel
theorem dL_law_540 : decode cL_law 540 = .ok (.iconst 0, 1) := by decide +kernel
theorem dL_law_541 : decode cL_law 541 = .ok (.ireturn, 1) := by decide +kernel
theorem dL_law_542 : decode cL_law 542 = .ok (.aload_n 1, 1) := by decide +kernel
theorem dL_law_543 : decode cL_law 543 = .ok (.invokevirtual 156, 3) := by decide +kernel
theorem dL_law_546 : decode cL_law 546 = .ok (.aload_n 2, 1) := by decide +kernel
theorem dL_law_547 : decode cL_law 547 = .ok (.invokevirtual 159, 3) := by decide +kernel
theorem dL_law_550 : decode cL_law 550 = .ok (.if_icmp .eq 2248, 3) := by decide +kernel
theorem dL_law_553 : decode cL_law 553 = .ok (.iconst 0, 1) := by decide +kernel
theorem dL_law_554 : decode cL_law 554 = .ok (.ireturn, 1) := by decide +kernel
theorem dL_law_555 : decode cL_law 555 = .ok (.aload_n 1, 1) := by decide +kernel
theorem dL_law_556 : decode cL_law 556 = .ok (.invokevirtual 160, 3) := by decide +kernel
theorem dL_law_559 : decode cL_law 559 = .ok (.aload_n 2, 1) := by decide +kernel
theorem dL_law_560 : decode cL_law 560 = .ok (.invokevirtual 163, 3) := by decide +kernel
theorem dL_law_563 : decode cL_law 563 = .ok (.if_icmp .eq 2235, 3) := by decide +kernel
theorem dL_law_566 : decode cL_law 566 = .ok (.iconst 0, 1) := by decide +kernel
theorem dL_law_567 : decode cL_law 567 = .ok (.ireturn, 1) := by decide +kernel
theorem dL_law_568 : decode cL_law 568 = .ok (.aload_n 1, 1) := by decide +kernel
theorem dL_law_569 : decode cL_law 569 = .ok (.invokevirtual 164, 3) := by decide +kernel
theorem dL_law_572 : decode cL_law 572 = .ok (.aload_n 2, 1) := by decide +kernel
theorem dL_law_573 : decode cL_law 573 = .ok (.invokevirtual 167, 3) := by decide +kernel
theorem dL_law_576 : decode cL_law 576 = .ok (.if_icmp .eq 2222, 3) := by decide +kernel
theorem dL_law_579 : decode cL_law 579 = .ok (.iconst 0, 1) := by decide +kernel
theorem dL_law_580 : decode cL_law 580 = .ok (.ireturn, 1) := by decide +kernel
theorem dL_law_581 : decode cL_law 581 = .ok (.aload_n 1, 1) := by decide +kernel
theorem dL_law_582 : decode cL_law 582 = .ok (.invokevirtual 168, 3) := by decide +kernel
theorem dL_law_585 : decode cL_law 585 = .ok (.aload_n 2, 1) := by decide +kernel
theorem dL_law_586 : decode cL_law 586 = .ok (.invokevirtual 171, 3) := by decide +kernel
theorem dL_law_589 : decode cL_law 589 = .ok (.if_icmp .eq 2209, 3) := by decide +kernel
theorem dL_law_592 : decode cL_law 592 = .ok (.iconst 0, 1) := by decide +kernel
theorem dL_law_593 : decode cL_law 593 = .ok (.ireturn, 1) := by decide +kernel
theorem dL_law_594 : decode cL_law 594 = .ok (.aload_n 1, 1) := by decide +kernel
theorem dL_law_595 : decode cL_law 595 = .ok (.invokevirtual 172, 3) := by decide +kernel
theorem dL_law_598 : decode cL_law 598 = .ok (.aload_n 2, 1) := by decide +kernel
theorem dL_law_599 : decode cL_law 599 = .ok (.invokevirtual 175, 3) := by decide +kernel
theorem dL_law_602 : decode cL_law 602 = .ok (.if_icmp .eq 2196, 3) := by decide +kernel
theorem dL_law_605 : decode cL_law 605 = .ok (.iconst 0, 1) := by decide +kernel
theorem dL_law_606 : decode cL_law 606 = .ok (.ireturn, 1) := by decide +kernel
theorem dL_law_607 : decode cL_law 607 = .ok (.aload_n 1, 1) := by decide +kernel
theorem dL_law_608 : decode cL_law 608 = .ok (.invokevirtual 176, 3) := by decide +kernel
theorem dL_law_611 : decode cL_law 611 = .ok (.aload_n 2, 1) := by decide +kernel
theorem dL_law_612 : decode cL_law 612 = .ok (.invokevirtual 179, 3) := by decide +kernel
theorem dL_law_615 : decode cL_law 615 = .ok (.if_icmp .eq 2183, 3) := by decide +kernel
theorem dL_law_618 : decode cL_law 618 = .ok (.iconst 0, 1) := by decide +kernel
theorem dL_law_619 : decode cL_law 619 = .ok (.ireturn, 1) := by decide +kernel
theorem dL_law_620 : decode cL_law 620 = .ok (.aload_n 1, 1) := by decide +kernel
theorem dL_law_621 : decode cL_law 621 = .ok (.invokevirtual 180, 3) := by decide +kernel
theorem dL_law_624 : decode cL_law 624 = .ok (.aload_n 2, 1) := by decide +kernel
theorem dL_law_625 : decode cL_law 625 = .ok (.invokevirtual 183, 3) := by decide +kernel
theorem dL_law_628 : decode cL_law 628 = .ok (.if_icmp .eq 2170, 3) := by decide +kernel
theorem dL_law_631 : decode cL_law 631 = .ok (.iconst 0, 1) := by decide +kernel
theorem dL_law_632 : decode cL_law 632 = .ok (.ireturn, 1) := by decide +kernel
theorem dL_law_633 : decode cL_law 633 = .ok (.aload_n 1, 1) := by decide +kernel
theorem dL_law_634 : decode cL_law 634 = .ok (.invokevirtual 184, 3) := by decide +kernel
theorem dL_law_637 : decode cL_law 637 = .ok (.aload_n 2, 1) := by decide +kernel
theorem dL_law_638 : decode cL_law 638 = .ok (.invokevirtual 187, 3) := by decide +kernel
theorem dL_law_641 : decode cL_law 641 = .ok (.if_icmp .eq 2157, 3) := by decide +kernel
theorem dL_law_644 : decode cL_law 644 = .ok (.iconst 0, 1) := by decide +kernel
theorem dL_law_645 : decode cL_law 645 = .ok (.ireturn, 1) := by decide +kernel
theorem dL_law_646 : decode cL_law 646 = .ok (.aload_n 1, 1) := by decide +kernel
theorem dL_law_647 : decode cL_law 647 = .ok (.invokevirtual 188, 3) := by decide +kernel
theorem dL_law_650 : decode cL_law 650 = .ok (.aload_n 2, 1) := by decide +kernel
theorem dL_law_651 : decode cL_law 651 = .ok (.invokevirtual 191, 3) := by decide +kernel
theorem dL_law_654 : decode cL_law 654 = .ok (.if_icmp .eq 2144, 3) := by decide +kernel
theorem dL_law_657 : decode cL_law 657 = .ok (.iconst 0, 1) := by decide +kernel
theorem dL_law_658 : decode cL_law 658 = .ok (.ireturn, 1) := by decide +kernel
theorem dL_law_659 : decode cL_law 659 = .ok (.aload_n 1, 1) := by decide +kernel
theorem dL_law_660 : decode cL_law 660 = .ok (.invokevirtual 192, 3) := by decide +kernel
theorem dL_law_663 : decode cL_law 663 = .ok (.aload_n 2, 1) := by decide +kernel
theorem dL_law_664 : decode cL_law 664 = .ok (.invokevirtual 195, 3) := by decide +kernel
theorem dL_law_667 : decode cL_law 667 = .ok (.if_icmp .eq 2131, 3) := by decide +kernel
theorem dL_law_670 : decode cL_law 670 = .ok (.iconst 0, 1) := by decide +kernel
theorem dL_law_671 : decode cL_law 671 = .ok (.ireturn, 1) := by decide +kernel
theorem dL_law_672 : decode cL_law 672 = .ok (.aload_n 1, 1) := by decide +kernel
theorem dL_law_673 : decode cL_law 673 = .ok (.invokevirtual 196, 3) := by decide +kernel
theorem dL_law_676 : decode cL_law 676 = .ok (.aload_n 2, 1) := by decide +kernel
theorem dL_law_677 : decode cL_law 677 = .ok (.invokevirtual 199, 3) := by decide +kernel
theorem dL_law_680 : decode cL_law 680 = .ok (.if_icmp .eq 2118, 3) := by decide +kernel
theorem dL_law_683 : decode cL_law 683 = .ok (.iconst 0, 1) := by decide +kernel
theorem dL_law_684 : decode cL_law 684 = .ok (.ireturn, 1) := by decide +kernel
theorem dL_law_685 : decode cL_law 685 = .ok (.aload_n 1, 1) := by decide +kernel
theorem dL_law_686 : decode cL_law 686 = .ok (.aload_n 0, 1) := by decide +kernel
theorem dL_law_687 : decode cL_law 687 = .ok (.iload 4, 2) := by decide +kernel
theorem dL_law_689 : decode cL_law 689 = .ok (.iconst 1, 1) := by decide +kernel
theorem dL_law_690 : decode cL_law 690 = .ok (.iadd, 1) := by decide +kernel
theorem dL_law_691 : decode cL_law 691 = .ok (.iaload, 1) := by decide +kernel
theorem dL_law_692 : decode cL_law 692 = .ok (.aload_n 0, 1) := by decide +kernel
theorem dL_law_693 : decode cL_law 693 = .ok (.iload 4, 2) := by decide +kernel
theorem dL_law_695 : decode cL_law 695 = .ok (.iconst 2, 1) := by decide +kernel
theorem dL_law_696 : decode cL_law 696 = .ok (.iadd, 1) := by decide +kernel
theorem dL_law_697 : decode cL_law 697 = .ok (.iaload, 1) := by decide +kernel
theorem dL_law_698 : decode cL_law 698 = .ok (.aload_n 3, 1) := by decide +kernel
theorem dL_law_699 : decode cL_law 699 = .ok (.invokestatic 200, 3) := by decide +kernel
theorem dL_law_702 : decode cL_law 702 = .ok (.istore 5, 2) := by decide +kernel
theorem dL_law_704 : decode cL_law 704 = .ok (.aload_n 2, 1) := by decide +kernel
theorem dL_law_705 : decode cL_law 705 = .ok (.aload_n 0, 1) := by decide +kernel
theorem dL_law_706 : decode cL_law 706 = .ok (.iload 4, 2) := by decide +kernel
theorem dL_law_708 : decode cL_law 708 = .ok (.iconst 1, 1) := by decide +kernel
theorem dL_law_709 : decode cL_law 709 = .ok (.iadd, 1) := by decide +kernel
theorem dL_law_710 : decode cL_law 710 = .ok (.iaload, 1) := by decide +kernel
theorem dL_law_711 : decode cL_law 711 = .ok (.aload_n 0, 1) := by decide +kernel
theorem dL_law_712 : decode cL_law 712 = .ok (.iload 4, 2) := by decide +kernel
theorem dL_law_714 : decode cL_law 714 = .ok (.iconst 2, 1) := by decide +kernel
theorem dL_law_715 : decode cL_law 715 = .ok (.iadd, 1) := by decide +kernel
theorem dL_law_716 : decode cL_law 716 = .ok (.iaload, 1) := by decide +kernel
theorem dL_law_717 : decode cL_law 717 = .ok (.invokevirtual 203, 3) := by decide +kernel
theorem dL_law_720 : decode cL_law 720 = .ok (.istore 6, 2) := by decide +kernel
theorem dL_law_722 : decode cL_law 722 = .ok (.aload_n 2, 1) := by decide +kernel
theorem dL_law_723 : decode cL_law 723 = .ok (.invokevirtual 137, 3) := by decide +kernel
theorem dL_law_726 : decode cL_law 726 = .ok (.iload 5, 2) := by decide +kernel
theorem dL_law_728 : decode cL_law 728 = .ok (.if_icmp .eq 5, 3) := by decide +kernel
theorem dL_law_731 : decode cL_law 731 = .ok (.iconst 0, 1) := by decide +kernel
theorem dL_law_732 : decode cL_law 732 = .ok (.ireturn, 1) := by decide +kernel
theorem dL_law_733 : decode cL_law 733 = .ok (.iload 5, 2) := by decide +kernel
theorem dL_law_735 : decode cL_law 735 = .ok (.ifCond .ne 15, 3) := by decide +kernel
theorem dL_law_738 : decode cL_law 738 = .ok (.aload_n 3, 1) := by decide +kernel
theorem dL_law_739 : decode cL_law 739 = .ok (.iconst 0, 1) := by decide +kernel
theorem dL_law_740 : decode cL_law 740 = .ok (.laload, 1) := by decide +kernel
theorem dL_law_741 : decode cL_law 741 = .ok (.iload 6, 2) := by decide +kernel
theorem dL_law_743 : decode cL_law 743 = .ok (.i2l, 1) := by decide +kernel
theorem dL_law_744 : decode cL_law 744 = .ok (.lcmp, 1) := by decide +kernel
theorem dL_law_745 : decode cL_law 745 = .ok (.ifCond .eq 5, 3) := by decide +kernel
theorem dL_law_748 : decode cL_law 748 = .ok (.iconst 0, 1) := by decide +kernel
theorem dL_law_749 : decode cL_law 749 = .ok (.ireturn, 1) := by decide +kernel
theorem dL_law_750 : decode cL_law 750 = .ok (.goto 2048, 3) := by decide +kernel
theorem dL_law_753 : decode cL_law 753 = .ok (.aload_n 1, 1) := by decide +kernel
theorem dL_law_754 : decode cL_law 754 = .ok (.aload_n 3, 1) := by decide +kernel
theorem dL_law_755 : decode cL_law 755 = .ok (.invokestatic 204, 3) := by decide +kernel
theorem dL_law_758 : decode cL_law 758 = .ok (.istore 5, 2) := by decide +kernel
theorem dL_law_760 : decode cL_law 760 = .ok (.aload_n 2, 1) := by decide +kernel
theorem dL_law_761 : decode cL_law 761 = .ok (.invokevirtual 206, 3) := by decide +kernel
theorem dL_law_764 : decode cL_law 764 = .ok (.istore 6, 2) := by decide +kernel
theorem dL_law_766 : decode cL_law 766 = .ok (.aload_n 2, 1) := by decide +kernel
theorem dL_law_767 : decode cL_law 767 = .ok (.invokevirtual 137, 3) := by decide +kernel
theorem dL_law_770 : decode cL_law 770 = .ok (.iload 5, 2) := by decide +kernel
theorem dL_law_772 : decode cL_law 772 = .ok (.if_icmp .eq 5, 3) := by decide +kernel
theorem dL_law_775 : decode cL_law 775 = .ok (.iconst 0, 1) := by decide +kernel
theorem dL_law_776 : decode cL_law 776 = .ok (.ireturn, 1) := by decide +kernel
theorem dL_law_777 : decode cL_law 777 = .ok (.iload 5, 2) := by decide +kernel
theorem dL_law_779 : decode cL_law 779 = .ok (.ifCond .ne 15, 3) := by decide +kernel
theorem dL_law_782 : decode cL_law 782 = .ok (.aload_n 3, 1) := by decide +kernel
theorem dL_law_783 : decode cL_law 783 = .ok (.iconst 0, 1) := by decide +kernel
theorem dL_law_784 : decode cL_law 784 = .ok (.laload, 1) := by decide +kernel
theorem dL_law_785 : decode cL_law 785 = .ok (.iload 6, 2) := by decide +kernel
theorem dL_law_787 : decode cL_law 787 = .ok (.i2l, 1) := by decide +kernel
theorem dL_law_788 : decode cL_law 788 = .ok (.lcmp, 1) := by decide +kernel
theorem dL_law_789 : decode cL_law 789 = .ok (.ifCond .eq 5, 3) := by decide +kernel
theorem dL_law_792 : decode cL_law 792 = .ok (.iconst 0, 1) := by decide +kernel
theorem dL_law_793 : decode cL_law 793 = .ok (.ireturn, 1) := by decide +kernel
theorem dL_law_794 : decode cL_law 794 = .ok (.goto 2004, 3) := by decide +kernel
theorem dL_law_797 : decode cL_law 797 = .ok (.aload_n 1, 1) := by decide +kernel
theorem dL_law_798 : decode cL_law 798 = .ok (.aload_n 0, 1) := by decide +kernel
theorem dL_law_799 : decode cL_law 799 = .ok (.iload 4, 2) := by decide +kernel
theorem dL_law_801 : decode cL_law 801 = .ok (.iconst 1, 1) := by decide +kernel
theorem dL_law_802 : decode cL_law 802 = .ok (.iadd, 1) := by decide +kernel
theorem dL_law_803 : decode cL_law 803 = .ok (.iaload, 1) := by decide +kernel
theorem dL_law_804 : decode cL_law 804 = .ok (.aload_n 3, 1) := by decide +kernel
theorem dL_law_805 : decode cL_law 805 = .ok (.invokestatic 207, 3) := by decide +kernel
theorem dL_law_808 : decode cL_law 808 = .ok (.istore 5, 2) := by decide +kernel
theorem dL_law_810 : decode cL_law 810 = .ok (.aload_n 2, 1) := by decide +kernel
theorem dL_law_811 : decode cL_law 811 = .ok (.aload_n 0, 1) := by decide +kernel
theorem dL_law_812 : decode cL_law 812 = .ok (.iload 4, 2) := by decide +kernel
theorem dL_law_814 : decode cL_law 814 = .ok (.iconst 1, 1) := by decide +kernel
theorem dL_law_815 : decode cL_law 815 = .ok (.iadd, 1) := by decide +kernel
theorem dL_law_816 : decode cL_law 816 = .ok (.iaload, 1) := by decide +kernel
theorem dL_law_817 : decode cL_law 817 = .ok (.invokevirtual 209, 3) := by decide +kernel
theorem dL_law_820 : decode cL_law 820 = .ok (.istore 6, 2) := by decide +kernel
theorem dL_law_822 : decode cL_law 822 = .ok (.aload_n 2, 1) := by decide +kernel
theorem dL_law_823 : decode cL_law 823 = .ok (.invokevirtual 137, 3) := by decide +kernel
theorem dL_law_826 : decode cL_law 826 = .ok (.iload 5, 2) := by decide +kernel
theorem dL_law_828 : decode cL_law 828 = .ok (.if_icmp .eq 5, 3) := by decide +kernel
theorem dL_law_831 : decode cL_law 831 = .ok (.iconst 0, 1) := by decide +kernel
theorem dL_law_832 : decode cL_law 832 = .ok (.ireturn, 1) := by decide +kernel
theorem dL_law_833 : decode cL_law 833 = .ok (.iload 5, 2) := by decide +kernel
theorem dL_law_835 : decode cL_law 835 = .ok (.ifCond .ne 15, 3) := by decide +kernel
theorem dL_law_838 : decode cL_law 838 = .ok (.aload_n 3, 1) := by decide +kernel
theorem dL_law_839 : decode cL_law 839 = .ok (.iconst 0, 1) := by decide +kernel
theorem dL_law_840 : decode cL_law 840 = .ok (.laload, 1) := by decide +kernel
theorem dL_law_841 : decode cL_law 841 = .ok (.iload 6, 2) := by decide +kernel
theorem dL_law_843 : decode cL_law 843 = .ok (.i2l, 1) := by decide +kernel
theorem dL_law_844 : decode cL_law 844 = .ok (.lcmp, 1) := by decide +kernel
theorem dL_law_845 : decode cL_law 845 = .ok (.ifCond .eq 5, 3) := by decide +kernel
theorem dL_law_848 : decode cL_law 848 = .ok (.iconst 0, 1) := by decide +kernel
theorem dL_law_849 : decode cL_law 849 = .ok (.ireturn, 1) := by decide +kernel
theorem dL_law_850 : decode cL_law 850 = .ok (.goto 1948, 3) := by decide +kernel
theorem dL_law_853 : decode cL_law 853 = .ok (.aload_n 1, 1) := by decide +kernel
theorem dL_law_854 : decode cL_law 854 = .ok (.aload_n 0, 1) := by decide +kernel
theorem dL_law_855 : decode cL_law 855 = .ok (.iload 4, 2) := by decide +kernel
theorem dL_law_857 : decode cL_law 857 = .ok (.iconst 1, 1) := by decide +kernel
theorem dL_law_858 : decode cL_law 858 = .ok (.iadd, 1) := by decide +kernel
theorem dL_law_859 : decode cL_law 859 = .ok (.iaload, 1) := by decide +kernel
theorem dL_law_860 : decode cL_law 860 = .ok (.aload_n 3, 1) := by decide +kernel
theorem dL_law_861 : decode cL_law 861 = .ok (.invokestatic 210, 3) := by decide +kernel
theorem dL_law_864 : decode cL_law 864 = .ok (.istore 5, 2) := by decide +kernel
theorem dL_law_866 : decode cL_law 866 = .ok (.aload_n 2, 1) := by decide +kernel
theorem dL_law_867 : decode cL_law 867 = .ok (.aload_n 0, 1) := by decide +kernel
theorem dL_law_868 : decode cL_law 868 = .ok (.iload 4, 2) := by decide +kernel
theorem dL_law_870 : decode cL_law 870 = .ok (.iconst 1, 1) := by decide +kernel
theorem dL_law_871 : decode cL_law 871 = .ok (.iadd, 1) := by decide +kernel
theorem dL_law_872 : decode cL_law 872 = .ok (.iaload, 1) := by decide +kernel
theorem dL_law_873 : decode cL_law 873 = .ok (.invokevirtual 212, 3) := by decide +kernel
theorem dL_law_876 : decode cL_law 876 = .ok (.istore 6, 2) := by decide +kernel
theorem dL_law_878 : decode cL_law 878 = .ok (.aload_n 2, 1) := by decide +kernel
theorem dL_law_879 : decode cL_law 879 = .ok (.invokevirtual 137, 3) := by decide +kernel
theorem dL_law_882 : decode cL_law 882 = .ok (.iload 5, 2) := by decide +kernel
theorem dL_law_884 : decode cL_law 884 = .ok (.if_icmp .eq 5, 3) := by decide +kernel
theorem dL_law_887 : decode cL_law 887 = .ok (.iconst 0, 1) := by decide +kernel
theorem dL_law_888 : decode cL_law 888 = .ok (.ireturn, 1) := by decide +kernel
theorem dL_law_889 : decode cL_law 889 = .ok (.iload 5, 2) := by decide +kernel
theorem dL_law_891 : decode cL_law 891 = .ok (.ifCond .ne 15, 3) := by decide +kernel
theorem dL_law_894 : decode cL_law 894 = .ok (.aload_n 3, 1) := by decide +kernel
theorem dL_law_895 : decode cL_law 895 = .ok (.iconst 0, 1) := by decide +kernel
theorem dL_law_896 : decode cL_law 896 = .ok (.laload, 1) := by decide +kernel
theorem dL_law_897 : decode cL_law 897 = .ok (.iload 6, 2) := by decide +kernel
theorem dL_law_899 : decode cL_law 899 = .ok (.i2l, 1) := by decide +kernel
theorem dL_law_900 : decode cL_law 900 = .ok (.lcmp, 1) := by decide +kernel
theorem dL_law_901 : decode cL_law 901 = .ok (.ifCond .eq 5, 3) := by decide +kernel
theorem dL_law_904 : decode cL_law 904 = .ok (.iconst 0, 1) := by decide +kernel
theorem dL_law_905 : decode cL_law 905 = .ok (.ireturn, 1) := by decide +kernel
theorem dL_law_906 : decode cL_law 906 = .ok (.goto 1892, 3) := by decide +kernel
theorem dL_law_909 : decode cL_law 909 = .ok (.aload_n 1, 1) := by decide +kernel
theorem dL_law_910 : decode cL_law 910 = .ok (.aload_n 0, 1) := by decide +kernel
theorem dL_law_911 : decode cL_law 911 = .ok (.iload 4, 2) := by decide +kernel
theorem dL_law_913 : decode cL_law 913 = .ok (.iconst 1, 1) := by decide +kernel
theorem dL_law_914 : decode cL_law 914 = .ok (.iadd, 1) := by decide +kernel
theorem dL_law_915 : decode cL_law 915 = .ok (.iaload, 1) := by decide +kernel
theorem dL_law_916 : decode cL_law 916 = .ok (.aload_n 3, 1) := by decide +kernel
theorem dL_law_917 : decode cL_law 917 = .ok (.invokestatic 213, 3) := by decide +kernel
theorem dL_law_920 : decode cL_law 920 = .ok (.istore 5, 2) := by decide +kernel
theorem dL_law_922 : decode cL_law 922 = .ok (.aload_n 2, 1) := by decide +kernel
theorem dL_law_923 : decode cL_law 923 = .ok (.aload_n 0, 1) := by decide +kernel
theorem dL_law_924 : decode cL_law 924 = .ok (.iload 4, 2) := by decide +kernel
theorem dL_law_926 : decode cL_law 926 = .ok (.iconst 1, 1) := by decide +kernel
theorem dL_law_927 : decode cL_law 927 = .ok (.iadd, 1) := by decide +kernel
theorem dL_law_928 : decode cL_law 928 = .ok (.iaload, 1) := by decide +kernel
theorem dL_law_929 : decode cL_law 929 = .ok (.invokevirtual 215, 3) := by decide +kernel
theorem dL_law_932 : decode cL_law 932 = .ok (.istore 6, 2) := by decide +kernel
theorem dL_law_934 : decode cL_law 934 = .ok (.aload_n 2, 1) := by decide +kernel
theorem dL_law_935 : decode cL_law 935 = .ok (.invokevirtual 137, 3) := by decide +kernel
theorem dL_law_938 : decode cL_law 938 = .ok (.iload 5, 2) := by decide +kernel
theorem dL_law_940 : decode cL_law 940 = .ok (.if_icmp .eq 5, 3) := by decide +kernel
theorem dL_law_943 : decode cL_law 943 = .ok (.iconst 0, 1) := by decide +kernel
theorem dL_law_944 : decode cL_law 944 = .ok (.ireturn, 1) := by decide +kernel
theorem dL_law_945 : decode cL_law 945 = .ok (.iload 5, 2) := by decide +kernel
theorem dL_law_947 : decode cL_law 947 = .ok (.ifCond .ne 15, 3) := by decide +kernel
theorem dL_law_950 : decode cL_law 950 = .ok (.aload_n 3, 1) := by decide +kernel
theorem dL_law_951 : decode cL_law 951 = .ok (.iconst 0, 1) := by decide +kernel
theorem dL_law_952 : decode cL_law 952 = .ok (.laload, 1) := by decide +kernel
theorem dL_law_953 : decode cL_law 953 = .ok (.iload 6, 2) := by decide +kernel
theorem dL_law_955 : decode cL_law 955 = .ok (.i2l, 1) := by decide +kernel
theorem dL_law_956 : decode cL_law 956 = .ok (.lcmp, 1) := by decide +kernel
theorem dL_law_957 : decode cL_law 957 = .ok (.ifCond .eq 5, 3) := by decide +kernel
theorem dL_law_960 : decode cL_law 960 = .ok (.iconst 0, 1) := by decide +kernel
theorem dL_law_961 : decode cL_law 961 = .ok (.ireturn, 1) := by decide +kernel
theorem dL_law_962 : decode cL_law 962 = .ok (.goto 1836, 3) := by decide +kernel
theorem dL_law_965 : decode cL_law 965 = .ok (.aload_n 1, 1) := by decide +kernel
theorem dL_law_966 : decode cL_law 966 = .ok (.aload_n 0, 1) := by decide +kernel
theorem dL_law_967 : decode cL_law 967 = .ok (.iload 4, 2) := by decide +kernel
theorem dL_law_969 : decode cL_law 969 = .ok (.iconst 1, 1) := by decide +kernel
theorem dL_law_970 : decode cL_law 970 = .ok (.iadd, 1) := by decide +kernel
theorem dL_law_971 : decode cL_law 971 = .ok (.iaload, 1) := by decide +kernel
theorem dL_law_972 : decode cL_law 972 = .ok (.aload_n 3, 1) := by decide +kernel
theorem dL_law_973 : decode cL_law 973 = .ok (.invokestatic 216, 3) := by decide +kernel
theorem dL_law_976 : decode cL_law 976 = .ok (.istore 5, 2) := by decide +kernel
theorem dL_law_978 : decode cL_law 978 = .ok (.aload_n 2, 1) := by decide +kernel
theorem dL_law_979 : decode cL_law 979 = .ok (.aload_n 0, 1) := by decide +kernel
theorem dL_law_980 : decode cL_law 980 = .ok (.iload 4, 2) := by decide +kernel
theorem dL_law_982 : decode cL_law 982 = .ok (.iconst 1, 1) := by decide +kernel
theorem dL_law_983 : decode cL_law 983 = .ok (.iadd, 1) := by decide +kernel
theorem dL_law_984 : decode cL_law 984 = .ok (.iaload, 1) := by decide +kernel
theorem dL_law_985 : decode cL_law 985 = .ok (.invokevirtual 218, 3) := by decide +kernel
theorem dL_law_988 : decode cL_law 988 = .ok (.istore 6, 2) := by decide +kernel
theorem dL_law_990 : decode cL_law 990 = .ok (.aload_n 2, 1) := by decide +kernel
theorem dL_law_991 : decode cL_law 991 = .ok (.invokevirtual 137, 3) := by decide +kernel
theorem dL_law_994 : decode cL_law 994 = .ok (.iload 5, 2) := by decide +kernel
theorem dL_law_996 : decode cL_law 996 = .ok (.if_icmp .eq 5, 3) := by decide +kernel
theorem dL_law_999 : decode cL_law 999 = .ok (.iconst 0, 1) := by decide +kernel
theorem dL_law_1000 : decode cL_law 1000 = .ok (.ireturn, 1) := by decide +kernel
theorem dL_law_1001 : decode cL_law 1001 = .ok (.iload 5, 2) := by decide +kernel
theorem dL_law_1003 : decode cL_law 1003 = .ok (.ifCond .ne 15, 3) := by decide +kernel
theorem dL_law_1006 : decode cL_law 1006 = .ok (.aload_n 3, 1) := by decide +kernel
theorem dL_law_1007 : decode cL_law 1007 = .ok (.iconst 0, 1) := by decide +kernel
theorem dL_law_1008 : decode cL_law 1008 = .ok (.laload, 1) := by decide +kernel
theorem dL_law_1009 : decode cL_law 1009 = .ok (.iload 6, 2) := by decide +kernel
theorem dL_law_1011 : decode cL_law 1011 = .ok (.i2l, 1) := by decide +kernel
theorem dL_law_1012 : decode cL_law 1012 = .ok (.lcmp, 1) := by decide +kernel
theorem dL_law_1013 : decode cL_law 1013 = .ok (.ifCond .eq 5, 3) := by decide +kernel
theorem dL_law_1016 : decode cL_law 1016 = .ok (.iconst 0, 1) := by decide +kernel
theorem dL_law_1017 : decode cL_law 1017 = .ok (.ireturn, 1) := by decide +kernel
theorem dL_law_1018 : decode cL_law 1018 = .ok (.goto 1780, 3) := by decide +kernel
theorem dL_law_1021 : decode cL_law 1021 = .ok (.aload_n 1, 1) := by decide +kernel
theorem dL_law_1022 : decode cL_law 1022 = .ok (.aload_n 0, 1) := by decide +kernel
theorem dL_law_1023 : decode cL_law 1023 = .ok (.iload 4, 2) := by decide +kernel
theorem dL_law_1025 : decode cL_law 1025 = .ok (.iconst 1, 1) := by decide +kernel
theorem dL_law_1026 : decode cL_law 1026 = .ok (.iadd, 1) := by decide +kernel
theorem dL_law_1027 : decode cL_law 1027 = .ok (.iaload, 1) := by decide +kernel
theorem dL_law_1028 : decode cL_law 1028 = .ok (.aload_n 3, 1) := by decide +kernel
theorem dL_law_1029 : decode cL_law 1029 = .ok (.invokestatic 219, 3) := by decide +kernel
theorem dL_law_1032 : decode cL_law 1032 = .ok (.istore 5, 2) := by decide +kernel
theorem dL_law_1034 : decode cL_law 1034 = .ok (.aload_n 2, 1) := by decide +kernel
theorem dL_law_1035 : decode cL_law 1035 = .ok (.aload_n 0, 1) := by decide +kernel
theorem dL_law_1036 : decode cL_law 1036 = .ok (.iload 4, 2) := by decide +kernel
theorem dL_law_1038 : decode cL_law 1038 = .ok (.iconst 1, 1) := by decide +kernel
theorem dL_law_1039 : decode cL_law 1039 = .ok (.iadd, 1) := by decide +kernel
theorem dL_law_1040 : decode cL_law 1040 = .ok (.iaload, 1) := by decide +kernel
theorem dL_law_1041 : decode cL_law 1041 = .ok (.invokevirtual 221, 3) := by decide +kernel
theorem dL_law_1044 : decode cL_law 1044 = .ok (.istore 6, 2) := by decide +kernel
theorem dL_law_1046 : decode cL_law 1046 = .ok (.aload_n 2, 1) := by decide +kernel
theorem dL_law_1047 : decode cL_law 1047 = .ok (.invokevirtual 137, 3) := by decide +kernel
theorem dL_law_1050 : decode cL_law 1050 = .ok (.iload 5, 2) := by decide +kernel
theorem dL_law_1052 : decode cL_law 1052 = .ok (.if_icmp .eq 5, 3) := by decide +kernel
theorem dL_law_1055 : decode cL_law 1055 = .ok (.iconst 0, 1) := by decide +kernel
theorem dL_law_1056 : decode cL_law 1056 = .ok (.ireturn, 1) := by decide +kernel
theorem dL_law_1057 : decode cL_law 1057 = .ok (.iload 5, 2) := by decide +kernel
theorem dL_law_1059 : decode cL_law 1059 = .ok (.ifCond .ne 15, 3) := by decide +kernel
theorem dL_law_1062 : decode cL_law 1062 = .ok (.aload_n 3, 1) := by decide +kernel
theorem dL_law_1063 : decode cL_law 1063 = .ok (.iconst 0, 1) := by decide +kernel
theorem dL_law_1064 : decode cL_law 1064 = .ok (.laload, 1) := by decide +kernel
theorem dL_law_1065 : decode cL_law 1065 = .ok (.iload 6, 2) := by decide +kernel
theorem dL_law_1067 : decode cL_law 1067 = .ok (.i2l, 1) := by decide +kernel
theorem dL_law_1068 : decode cL_law 1068 = .ok (.lcmp, 1) := by decide +kernel
theorem dL_law_1069 : decode cL_law 1069 = .ok (.ifCond .eq 5, 3) := by decide +kernel
theorem dL_law_1072 : decode cL_law 1072 = .ok (.iconst 0, 1) := by decide +kernel
theorem dL_law_1073 : decode cL_law 1073 = .ok (.ireturn, 1) := by decide +kernel
theorem dL_law_1074 : decode cL_law 1074 = .ok (.goto 1724, 3) := by decide +kernel
theorem dL_law_1077 : decode cL_law 1077 = .ok (.aload_n 1, 1) := by decide +kernel
theorem dL_law_1078 : decode cL_law 1078 = .ok (.aload_n 0, 1) := by decide +kernel
theorem dL_law_1079 : decode cL_law 1079 = .ok (.iload 4, 2) := by decide +kernel
theorem dL_law_1081 : decode cL_law 1081 = .ok (.iconst 1, 1) := by decide +kernel
theorem dL_law_1082 : decode cL_law 1082 = .ok (.iadd, 1) := by decide +kernel
theorem dL_law_1083 : decode cL_law 1083 = .ok (.iaload, 1) := by decide +kernel
theorem dL_law_1084 : decode cL_law 1084 = .ok (.aload_n 3, 1) := by decide +kernel
theorem dL_law_1085 : decode cL_law 1085 = .ok (.invokestatic 222, 3) := by decide +kernel
theorem dL_law_1088 : decode cL_law 1088 = .ok (.istore 5, 2) := by decide +kernel
theorem dL_law_1090 : decode cL_law 1090 = .ok (.aload_n 2, 1) := by decide +kernel
theorem dL_law_1091 : decode cL_law 1091 = .ok (.aload_n 0, 1) := by decide +kernel
theorem dL_law_1092 : decode cL_law 1092 = .ok (.iload 4, 2) := by decide +kernel
theorem dL_law_1094 : decode cL_law 1094 = .ok (.iconst 1, 1) := by decide +kernel
theorem dL_law_1095 : decode cL_law 1095 = .ok (.iadd, 1) := by decide +kernel
theorem dL_law_1096 : decode cL_law 1096 = .ok (.iaload, 1) := by decide +kernel
theorem dL_law_1097 : decode cL_law 1097 = .ok (.invokevirtual 224, 3) := by decide +kernel
theorem dL_law_1100 : decode cL_law 1100 = .ok (.istore 6, 2) := by decide +kernel
theorem dL_law_1102 : decode cL_law 1102 = .ok (.aload_n 2, 1) := by decide +kernel
theorem dL_law_1103 : decode cL_law 1103 = .ok (.invokevirtual 137, 3) := by decide +kernel
theorem dL_law_1106 : decode cL_law 1106 = .ok (.iload 5, 2) := by decide +kernel
theorem dL_law_1108 : decode cL_law 1108 = .ok (.if_icmp .eq 5, 3) := by decide +kernel
theorem dL_law_1111 : decode cL_law 1111 = .ok (.iconst 0, 1) := by decide +kernel
theorem dL_law_1112 : decode cL_law 1112 = .ok (.ireturn, 1) := by decide +kernel
theorem dL_law_1113 : decode cL_law 1113 = .ok (.iload 5, 2) := by decide +kernel
theorem dL_law_1115 : decode cL_law 1115 = .ok (.ifCond .ne 15, 3) := by decide +kernel
theorem dL_law_1118 : decode cL_law 1118 = .ok (.aload_n 3, 1) := by decide +kernel
theorem dL_law_1119 : decode cL_law 1119 = .ok (.iconst 0, 1) := by decide +kernel
theorem dL_law_1120 : decode cL_law 1120 = .ok (.laload, 1) := by decide +kernel
theorem dL_law_1121 : decode cL_law 1121 = .ok (.iload 6, 2) := by decide +kernel
theorem dL_law_1123 : decode cL_law 1123 = .ok (.i2l, 1) := by decide +kernel
theorem dL_law_1124 : decode cL_law 1124 = .ok (.lcmp, 1) := by decide +kernel
theorem dL_law_1125 : decode cL_law 1125 = .ok (.ifCond .eq 5, 3) := by decide +kernel
theorem dL_law_1128 : decode cL_law 1128 = .ok (.iconst 0, 1) := by decide +kernel
theorem dL_law_1129 : decode cL_law 1129 = .ok (.ireturn, 1) := by decide +kernel
theorem dL_law_1130 : decode cL_law 1130 = .ok (.goto 1668, 3) := by decide +kernel
theorem dL_law_1133 : decode cL_law 1133 = .ok (.aload_n 1, 1) := by decide +kernel
theorem dL_law_1134 : decode cL_law 1134 = .ok (.aload_n 0, 1) := by decide +kernel
theorem dL_law_1135 : decode cL_law 1135 = .ok (.iload 4, 2) := by decide +kernel
theorem dL_law_1137 : decode cL_law 1137 = .ok (.iconst 1, 1) := by decide +kernel
theorem dL_law_1138 : decode cL_law 1138 = .ok (.iadd, 1) := by decide +kernel
theorem dL_law_1139 : decode cL_law 1139 = .ok (.iaload, 1) := by decide +kernel
theorem dL_law_1140 : decode cL_law 1140 = .ok (.aload_n 3, 1) := by decide +kernel
theorem dL_law_1141 : decode cL_law 1141 = .ok (.invokestatic 225, 3) := by decide +kernel
theorem dL_law_1144 : decode cL_law 1144 = .ok (.istore 5, 2) := by decide +kernel
theorem dL_law_1146 : decode cL_law 1146 = .ok (.aload_n 2, 1) := by decide +kernel
theorem dL_law_1147 : decode cL_law 1147 = .ok (.aload_n 0, 1) := by decide +kernel
theorem dL_law_1148 : decode cL_law 1148 = .ok (.iload 4, 2) := by decide +kernel
theorem dL_law_1150 : decode cL_law 1150 = .ok (.iconst 1, 1) := by decide +kernel
theorem dL_law_1151 : decode cL_law 1151 = .ok (.iadd, 1) := by decide +kernel
theorem dL_law_1152 : decode cL_law 1152 = .ok (.iaload, 1) := by decide +kernel
theorem dL_law_1153 : decode cL_law 1153 = .ok (.invokevirtual 227, 3) := by decide +kernel
theorem dL_law_1156 : decode cL_law 1156 = .ok (.istore 6, 2) := by decide +kernel
theorem dL_law_1158 : decode cL_law 1158 = .ok (.aload_n 2, 1) := by decide +kernel
theorem dL_law_1159 : decode cL_law 1159 = .ok (.invokevirtual 137, 3) := by decide +kernel
theorem dL_law_1162 : decode cL_law 1162 = .ok (.iload 5, 2) := by decide +kernel
theorem dL_law_1164 : decode cL_law 1164 = .ok (.if_icmp .eq 5, 3) := by decide +kernel
theorem dL_law_1167 : decode cL_law 1167 = .ok (.iconst 0, 1) := by decide +kernel
theorem dL_law_1168 : decode cL_law 1168 = .ok (.ireturn, 1) := by decide +kernel
theorem dL_law_1169 : decode cL_law 1169 = .ok (.iload 5, 2) := by decide +kernel
theorem dL_law_1171 : decode cL_law 1171 = .ok (.ifCond .ne 15, 3) := by decide +kernel
theorem dL_law_1174 : decode cL_law 1174 = .ok (.aload_n 3, 1) := by decide +kernel
theorem dL_law_1175 : decode cL_law 1175 = .ok (.iconst 0, 1) := by decide +kernel
theorem dL_law_1176 : decode cL_law 1176 = .ok (.laload, 1) := by decide +kernel
theorem dL_law_1177 : decode cL_law 1177 = .ok (.iload 6, 2) := by decide +kernel
theorem dL_law_1179 : decode cL_law 1179 = .ok (.i2l, 1) := by decide +kernel
theorem dL_law_1180 : decode cL_law 1180 = .ok (.lcmp, 1) := by decide +kernel
theorem dL_law_1181 : decode cL_law 1181 = .ok (.ifCond .eq 5, 3) := by decide +kernel
theorem dL_law_1184 : decode cL_law 1184 = .ok (.iconst 0, 1) := by decide +kernel
theorem dL_law_1185 : decode cL_law 1185 = .ok (.ireturn, 1) := by decide +kernel
theorem dL_law_1186 : decode cL_law 1186 = .ok (.goto 1612, 3) := by decide +kernel
theorem dL_law_1189 : decode cL_law 1189 = .ok (.aload_n 1, 1) := by decide +kernel
theorem dL_law_1190 : decode cL_law 1190 = .ok (.aload_n 0, 1) := by decide +kernel
theorem dL_law_1191 : decode cL_law 1191 = .ok (.iload 4, 2) := by decide +kernel
theorem dL_law_1193 : decode cL_law 1193 = .ok (.iconst 1, 1) := by decide +kernel
theorem dL_law_1194 : decode cL_law 1194 = .ok (.iadd, 1) := by decide +kernel
theorem dL_law_1195 : decode cL_law 1195 = .ok (.iaload, 1) := by decide +kernel
theorem dL_law_1196 : decode cL_law 1196 = .ok (.aload_n 3, 1) := by decide +kernel
theorem dL_law_1197 : decode cL_law 1197 = .ok (.invokestatic 228, 3) := by decide +kernel
theorem dL_law_1200 : decode cL_law 1200 = .ok (.istore 5, 2) := by decide +kernel
theorem dL_law_1202 : decode cL_law 1202 = .ok (.aload_n 2, 1) := by decide +kernel
theorem dL_law_1203 : decode cL_law 1203 = .ok (.aload_n 0, 1) := by decide +kernel
theorem dL_law_1204 : decode cL_law 1204 = .ok (.iload 4, 2) := by decide +kernel
theorem dL_law_1206 : decode cL_law 1206 = .ok (.iconst 1, 1) := by decide +kernel
theorem dL_law_1207 : decode cL_law 1207 = .ok (.iadd, 1) := by decide +kernel
theorem dL_law_1208 : decode cL_law 1208 = .ok (.iaload, 1) := by decide +kernel
theorem dL_law_1209 : decode cL_law 1209 = .ok (.invokevirtual 230, 3) := by decide +kernel
theorem dL_law_1212 : decode cL_law 1212 = .ok (.istore 6, 2) := by decide +kernel
theorem dL_law_1214 : decode cL_law 1214 = .ok (.aload_n 2, 1) := by decide +kernel
theorem dL_law_1215 : decode cL_law 1215 = .ok (.invokevirtual 137, 3) := by decide +kernel
theorem dL_law_1218 : decode cL_law 1218 = .ok (.iload 5, 2) := by decide +kernel
theorem dL_law_1220 : decode cL_law 1220 = .ok (.if_icmp .eq 5, 3) := by decide +kernel
theorem dL_law_1223 : decode cL_law 1223 = .ok (.iconst 0, 1) := by decide +kernel
theorem dL_law_1224 : decode cL_law 1224 = .ok (.ireturn, 1) := by decide +kernel
theorem dL_law_1225 : decode cL_law 1225 = .ok (.iload 5, 2) := by decide +kernel
theorem dL_law_1227 : decode cL_law 1227 = .ok (.ifCond .ne 15, 3) := by decide +kernel
theorem dL_law_1230 : decode cL_law 1230 = .ok (.aload_n 3, 1) := by decide +kernel
theorem dL_law_1231 : decode cL_law 1231 = .ok (.iconst 0, 1) := by decide +kernel
theorem dL_law_1232 : decode cL_law 1232 = .ok (.laload, 1) := by decide +kernel
theorem dL_law_1233 : decode cL_law 1233 = .ok (.iload 6, 2) := by decide +kernel
theorem dL_law_1235 : decode cL_law 1235 = .ok (.i2l, 1) := by decide +kernel
theorem dL_law_1236 : decode cL_law 1236 = .ok (.lcmp, 1) := by decide +kernel
theorem dL_law_1237 : decode cL_law 1237 = .ok (.ifCond .eq 5, 3) := by decide +kernel
theorem dL_law_1240 : decode cL_law 1240 = .ok (.iconst 0, 1) := by decide +kernel
theorem dL_law_1241 : decode cL_law 1241 = .ok (.ireturn, 1) := by decide +kernel
theorem dL_law_1242 : decode cL_law 1242 = .ok (.goto 1556, 3) := by decide +kernel
theorem dL_law_1245 : decode cL_law 1245 = .ok (.aload_n 1, 1) := by decide +kernel
theorem dL_law_1246 : decode cL_law 1246 = .ok (.aload_n 0, 1) := by decide +kernel
theorem dL_law_1247 : decode cL_law 1247 = .ok (.iload 4, 2) := by decide +kernel
theorem dL_law_1249 : decode cL_law 1249 = .ok (.iconst 1, 1) := by decide +kernel
theorem dL_law_1250 : decode cL_law 1250 = .ok (.iadd, 1) := by decide +kernel
theorem dL_law_1251 : decode cL_law 1251 = .ok (.iaload, 1) := by decide +kernel
theorem dL_law_1252 : decode cL_law 1252 = .ok (.aload_n 3, 1) := by decide +kernel
theorem dL_law_1253 : decode cL_law 1253 = .ok (.invokestatic 231, 3) := by decide +kernel
theorem dL_law_1256 : decode cL_law 1256 = .ok (.istore 5, 2) := by decide +kernel
theorem dL_law_1258 : decode cL_law 1258 = .ok (.aload_n 2, 1) := by decide +kernel
theorem dL_law_1259 : decode cL_law 1259 = .ok (.aload_n 0, 1) := by decide +kernel
theorem dL_law_1260 : decode cL_law 1260 = .ok (.iload 4, 2) := by decide +kernel
theorem dL_law_1262 : decode cL_law 1262 = .ok (.iconst 1, 1) := by decide +kernel
theorem dL_law_1263 : decode cL_law 1263 = .ok (.iadd, 1) := by decide +kernel
theorem dL_law_1264 : decode cL_law 1264 = .ok (.iaload, 1) := by decide +kernel
theorem dL_law_1265 : decode cL_law 1265 = .ok (.invokevirtual 233, 3) := by decide +kernel
theorem dL_law_1268 : decode cL_law 1268 = .ok (.istore 6, 2) := by decide +kernel
theorem dL_law_1270 : decode cL_law 1270 = .ok (.aload_n 2, 1) := by decide +kernel
theorem dL_law_1271 : decode cL_law 1271 = .ok (.invokevirtual 137, 3) := by decide +kernel
theorem dL_law_1274 : decode cL_law 1274 = .ok (.iload 5, 2) := by decide +kernel
theorem dL_law_1276 : decode cL_law 1276 = .ok (.if_icmp .eq 5, 3) := by decide +kernel
theorem dL_law_1279 : decode cL_law 1279 = .ok (.iconst 0, 1) := by decide +kernel
theorem dL_law_1280 : decode cL_law 1280 = .ok (.ireturn, 1) := by decide +kernel
theorem dL_law_1281 : decode cL_law 1281 = .ok (.iload 5, 2) := by decide +kernel
theorem dL_law_1283 : decode cL_law 1283 = .ok (.ifCond .ne 15, 3) := by decide +kernel
theorem dL_law_1286 : decode cL_law 1286 = .ok (.aload_n 3, 1) := by decide +kernel
theorem dL_law_1287 : decode cL_law 1287 = .ok (.iconst 0, 1) := by decide +kernel
theorem dL_law_1288 : decode cL_law 1288 = .ok (.laload, 1) := by decide +kernel
theorem dL_law_1289 : decode cL_law 1289 = .ok (.iload 6, 2) := by decide +kernel
theorem dL_law_1291 : decode cL_law 1291 = .ok (.i2l, 1) := by decide +kernel
theorem dL_law_1292 : decode cL_law 1292 = .ok (.lcmp, 1) := by decide +kernel
theorem dL_law_1293 : decode cL_law 1293 = .ok (.ifCond .eq 5, 3) := by decide +kernel
theorem dL_law_1296 : decode cL_law 1296 = .ok (.iconst 0, 1) := by decide +kernel
theorem dL_law_1297 : decode cL_law 1297 = .ok (.ireturn, 1) := by decide +kernel
theorem dL_law_1298 : decode cL_law 1298 = .ok (.goto 1500, 3) := by decide +kernel
theorem dL_law_1301 : decode cL_law 1301 = .ok (.aload_n 1, 1) := by decide +kernel
theorem dL_law_1302 : decode cL_law 1302 = .ok (.aload_n 0, 1) := by decide +kernel
theorem dL_law_1303 : decode cL_law 1303 = .ok (.iload 4, 2) := by decide +kernel
theorem dL_law_1305 : decode cL_law 1305 = .ok (.iconst 1, 1) := by decide +kernel
theorem dL_law_1306 : decode cL_law 1306 = .ok (.iadd, 1) := by decide +kernel
theorem dL_law_1307 : decode cL_law 1307 = .ok (.iaload, 1) := by decide +kernel
theorem dL_law_1308 : decode cL_law 1308 = .ok (.aload_n 3, 1) := by decide +kernel
theorem dL_law_1309 : decode cL_law 1309 = .ok (.invokestatic 234, 3) := by decide +kernel
theorem dL_law_1312 : decode cL_law 1312 = .ok (.istore 5, 2) := by decide +kernel
theorem dL_law_1314 : decode cL_law 1314 = .ok (.aload_n 2, 1) := by decide +kernel
theorem dL_law_1315 : decode cL_law 1315 = .ok (.aload_n 0, 1) := by decide +kernel
theorem dL_law_1316 : decode cL_law 1316 = .ok (.iload 4, 2) := by decide +kernel
theorem dL_law_1318 : decode cL_law 1318 = .ok (.iconst 1, 1) := by decide +kernel
theorem dL_law_1319 : decode cL_law 1319 = .ok (.iadd, 1) := by decide +kernel
theorem dL_law_1320 : decode cL_law 1320 = .ok (.iaload, 1) := by decide +kernel
theorem dL_law_1321 : decode cL_law 1321 = .ok (.invokevirtual 236, 3) := by decide +kernel
theorem dL_law_1324 : decode cL_law 1324 = .ok (.istore 6, 2) := by decide +kernel
theorem dL_law_1326 : decode cL_law 1326 = .ok (.aload_n 2, 1) := by decide +kernel
theorem dL_law_1327 : decode cL_law 1327 = .ok (.invokevirtual 137, 3) := by decide +kernel
theorem dL_law_1330 : decode cL_law 1330 = .ok (.iload 5, 2) := by decide +kernel
theorem dL_law_1332 : decode cL_law 1332 = .ok (.if_icmp .eq 5, 3) := by decide +kernel
theorem dL_law_1335 : decode cL_law 1335 = .ok (.iconst 0, 1) := by decide +kernel
theorem dL_law_1336 : decode cL_law 1336 = .ok (.ireturn, 1) := by decide +kernel
theorem dL_law_1337 : decode cL_law 1337 = .ok (.iload 5, 2) := by decide +kernel
theorem dL_law_1339 : decode cL_law 1339 = .ok (.ifCond .ne 22, 3) := by decide +kernel
theorem dL_law_1342 : decode cL_law 1342 = .ok (.aload_n 3, 1) := by decide +kernel
theorem dL_law_1343 : decode cL_law 1343 = .ok (.iconst 0, 1) := by decide +kernel
theorem dL_law_1344 : decode cL_law 1344 = .ok (.laload, 1) := by decide +kernel
theorem dL_law_1345 : decode cL_law 1345 = .ok (.iload 6, 2) := by decide +kernel
theorem dL_law_1347 : decode cL_law 1347 = .ok (.ifCond .eq 7, 3) := by decide +kernel
theorem dL_law_1350 : decode cL_law 1350 = .ok (.lconst 1, 1) := by decide +kernel
theorem dL_law_1351 : decode cL_law 1351 = .ok (.goto 4, 3) := by decide +kernel
theorem dL_law_1354 : decode cL_law 1354 = .ok (.lconst 0, 1) := by decide +kernel
theorem dL_law_1355 : decode cL_law 1355 = .ok (.lcmp, 1) := by decide +kernel
theorem dL_law_1356 : decode cL_law 1356 = .ok (.ifCond .eq 5, 3) := by decide +kernel
theorem dL_law_1359 : decode cL_law 1359 = .ok (.iconst 0, 1) := by decide +kernel
theorem dL_law_1360 : decode cL_law 1360 = .ok (.ireturn, 1) := by decide +kernel
theorem dL_law_1361 : decode cL_law 1361 = .ok (.goto 1437, 3) := by decide +kernel
theorem dL_law_1364 : decode cL_law 1364 = .ok (.aload_n 1, 1) := by decide +kernel
theorem dL_law_1365 : decode cL_law 1365 = .ok (.invokevirtual 237, 3) := by decide +kernel
theorem dL_law_1368 : decode cL_law 1368 = .ok (.aload_n 2, 1) := by decide +kernel
theorem dL_law_1369 : decode cL_law 1369 = .ok (.invokevirtual 240, 3) := by decide +kernel
theorem dL_law_1372 : decode cL_law 1372 = .ok (.if_icmp .eq 1426, 3) := by decide +kernel
theorem dL_law_1375 : decode cL_law 1375 = .ok (.iconst 0, 1) := by decide +kernel
theorem dL_law_1376 : decode cL_law 1376 = .ok (.ireturn, 1) := by decide +kernel
theorem dL_law_1377 : decode cL_law 1377 = .ok (.aload_n 1, 1) := by decide +kernel
theorem dL_law_1378 : decode cL_law 1378 = .ok (.invokevirtual 241, 3) := by decide +kernel
theorem dL_law_1381 : decode cL_law 1381 = .ok (.aload_n 2, 1) := by decide +kernel
theorem dL_law_1382 : decode cL_law 1382 = .ok (.invokevirtual 244, 3) := by decide +kernel
theorem dL_law_1385 : decode cL_law 1385 = .ok (.if_icmp .eq 1413, 3) := by decide +kernel
theorem dL_law_1388 : decode cL_law 1388 = .ok (.iconst 0, 1) := by decide +kernel
theorem dL_law_1389 : decode cL_law 1389 = .ok (.ireturn, 1) := by decide +kernel
theorem dL_law_1390 : decode cL_law 1390 = .ok (.aload_n 1, 1) := by decide +kernel
theorem dL_law_1391 : decode cL_law 1391 = .ok (.aload_n 0, 1) := by decide +kernel
theorem dL_law_1392 : decode cL_law 1392 = .ok (.iload 4, 2) := by decide +kernel
theorem dL_law_1394 : decode cL_law 1394 = .ok (.iconst 1, 1) := by decide +kernel
theorem dL_law_1395 : decode cL_law 1395 = .ok (.iadd, 1) := by decide +kernel
theorem dL_law_1396 : decode cL_law 1396 = .ok (.iaload, 1) := by decide +kernel
theorem dL_law_1397 : decode cL_law 1397 = .ok (.aload_n 3, 1) := by decide +kernel
theorem dL_law_1398 : decode cL_law 1398 = .ok (.invokestatic 245, 3) := by decide +kernel
theorem dL_law_1401 : decode cL_law 1401 = .ok (.istore 5, 2) := by decide +kernel
theorem dL_law_1403 : decode cL_law 1403 = .ok (.aload_n 2, 1) := by decide +kernel
theorem dL_law_1404 : decode cL_law 1404 = .ok (.aload_n 0, 1) := by decide +kernel
theorem dL_law_1405 : decode cL_law 1405 = .ok (.iload 4, 2) := by decide +kernel
theorem dL_law_1407 : decode cL_law 1407 = .ok (.iconst 1, 1) := by decide +kernel
theorem dL_law_1408 : decode cL_law 1408 = .ok (.iadd, 1) := by decide +kernel
theorem dL_law_1409 : decode cL_law 1409 = .ok (.iaload, 1) := by decide +kernel
theorem dL_law_1410 : decode cL_law 1410 = .ok (.invokevirtual 247, 3) := by decide +kernel
theorem dL_law_1413 : decode cL_law 1413 = .ok (.istore 6, 2) := by decide +kernel
theorem dL_law_1415 : decode cL_law 1415 = .ok (.aload_n 2, 1) := by decide +kernel
theorem dL_law_1416 : decode cL_law 1416 = .ok (.invokevirtual 137, 3) := by decide +kernel
theorem dL_law_1419 : decode cL_law 1419 = .ok (.iload 5, 2) := by decide +kernel
theorem dL_law_1421 : decode cL_law 1421 = .ok (.if_icmp .eq 5, 3) := by decide +kernel
theorem dL_law_1424 : decode cL_law 1424 = .ok (.iconst 0, 1) := by decide +kernel
theorem dL_law_1425 : decode cL_law 1425 = .ok (.ireturn, 1) := by decide +kernel
theorem dL_law_1426 : decode cL_law 1426 = .ok (.iload 5, 2) := by decide +kernel
theorem dL_law_1428 : decode cL_law 1428 = .ok (.ifCond .ne 15, 3) := by decide +kernel
theorem dL_law_1431 : decode cL_law 1431 = .ok (.aload_n 3, 1) := by decide +kernel
theorem dL_law_1432 : decode cL_law 1432 = .ok (.iconst 0, 1) := by decide +kernel
theorem dL_law_1433 : decode cL_law 1433 = .ok (.laload, 1) := by decide +kernel
theorem dL_law_1434 : decode cL_law 1434 = .ok (.iload 6, 2) := by decide +kernel
theorem dL_law_1436 : decode cL_law 1436 = .ok (.i2l, 1) := by decide +kernel
theorem dL_law_1437 : decode cL_law 1437 = .ok (.lcmp, 1) := by decide +kernel
theorem dL_law_1438 : decode cL_law 1438 = .ok (.ifCond .eq 5, 3) := by decide +kernel
theorem dL_law_1441 : decode cL_law 1441 = .ok (.iconst 0, 1) := by decide +kernel
theorem dL_law_1442 : decode cL_law 1442 = .ok (.ireturn, 1) := by decide +kernel
theorem dL_law_1443 : decode cL_law 1443 = .ok (.goto 1355, 3) := by decide +kernel
theorem dL_law_1446 : decode cL_law 1446 = .ok (.aload_n 1, 1) := by decide +kernel
theorem dL_law_1447 : decode cL_law 1447 = .ok (.aload_n 0, 1) := by decide +kernel
theorem dL_law_1448 : decode cL_law 1448 = .ok (.iload 4, 2) := by decide +kernel
theorem dL_law_1450 : decode cL_law 1450 = .ok (.iconst 1, 1) := by decide +kernel
theorem dL_law_1451 : decode cL_law 1451 = .ok (.iadd, 1) := by decide +kernel
theorem dL_law_1452 : decode cL_law 1452 = .ok (.iaload, 1) := by decide +kernel
theorem dL_law_1453 : decode cL_law 1453 = .ok (.aload_n 3, 1) := by decide +kernel
theorem dL_law_1454 : decode cL_law 1454 = .ok (.invokestatic 248, 3) := by decide +kernel
theorem dL_law_1457 : decode cL_law 1457 = .ok (.istore 5, 2) := by decide +kernel
theorem dL_law_1459 : decode cL_law 1459 = .ok (.aload_n 2, 1) := by decide +kernel
theorem dL_law_1460 : decode cL_law 1460 = .ok (.aload_n 0, 1) := by decide +kernel
theorem dL_law_1461 : decode cL_law 1461 = .ok (.iload 4, 2) := by decide +kernel
theorem dL_law_1463 : decode cL_law 1463 = .ok (.iconst 1, 1) := by decide +kernel
theorem dL_law_1464 : decode cL_law 1464 = .ok (.iadd, 1) := by decide +kernel
theorem dL_law_1465 : decode cL_law 1465 = .ok (.iaload, 1) := by decide +kernel
theorem dL_law_1466 : decode cL_law 1466 = .ok (.invokevirtual 250, 3) := by decide +kernel
theorem dL_law_1469 : decode cL_law 1469 = .ok (.istore 6, 2) := by decide +kernel
theorem dL_law_1471 : decode cL_law 1471 = .ok (.aload_n 2, 1) := by decide +kernel
theorem dL_law_1472 : decode cL_law 1472 = .ok (.invokevirtual 137, 3) := by decide +kernel
theorem dL_law_1475 : decode cL_law 1475 = .ok (.iload 5, 2) := by decide +kernel
theorem dL_law_1477 : decode cL_law 1477 = .ok (.if_icmp .eq 5, 3) := by decide +kernel
theorem dL_law_1480 : decode cL_law 1480 = .ok (.iconst 0, 1) := by decide +kernel
theorem dL_law_1481 : decode cL_law 1481 = .ok (.ireturn, 1) := by decide +kernel
theorem dL_law_1482 : decode cL_law 1482 = .ok (.iload 5, 2) := by decide +kernel
theorem dL_law_1484 : decode cL_law 1484 = .ok (.ifCond .ne 15, 3) := by decide +kernel
theorem dL_law_1487 : decode cL_law 1487 = .ok (.aload_n 3, 1) := by decide +kernel
theorem dL_law_1488 : decode cL_law 1488 = .ok (.iconst 0, 1) := by decide +kernel
theorem dL_law_1489 : decode cL_law 1489 = .ok (.laload, 1) := by decide +kernel
theorem dL_law_1490 : decode cL_law 1490 = .ok (.iload 6, 2) := by decide +kernel
theorem dL_law_1492 : decode cL_law 1492 = .ok (.i2l, 1) := by decide +kernel
theorem dL_law_1493 : decode cL_law 1493 = .ok (.lcmp, 1) := by decide +kernel
theorem dL_law_1494 : decode cL_law 1494 = .ok (.ifCond .eq 5, 3) := by decide +kernel
theorem dL_law_1497 : decode cL_law 1497 = .ok (.iconst 0, 1) := by decide +kernel
theorem dL_law_1498 : decode cL_law 1498 = .ok (.ireturn, 1) := by decide +kernel
theorem dL_law_1499 : decode cL_law 1499 = .ok (.goto 1299, 3) := by decide +kernel
theorem dL_law_1502 : decode cL_law 1502 = .ok (.aload_n 1, 1) := by decide +kernel
theorem dL_law_1503 : decode cL_law 1503 = .ok (.aload_n 0, 1) := by decide +kernel
theorem dL_law_1504 : decode cL_law 1504 = .ok (.iload 4, 2) := by decide +kernel
theorem dL_law_1506 : decode cL_law 1506 = .ok (.iconst 1, 1) := by decide +kernel
theorem dL_law_1507 : decode cL_law 1507 = .ok (.iadd, 1) := by decide +kernel
theorem dL_law_1508 : decode cL_law 1508 = .ok (.iaload, 1) := by decide +kernel
theorem dL_law_1509 : decode cL_law 1509 = .ok (.aload_n 3, 1) := by decide +kernel
theorem dL_law_1510 : decode cL_law 1510 = .ok (.invokestatic 251, 3) := by decide +kernel
theorem dL_law_1513 : decode cL_law 1513 = .ok (.istore 5, 2) := by decide +kernel
theorem dL_law_1515 : decode cL_law 1515 = .ok (.aload_n 2, 1) := by decide +kernel
theorem dL_law_1516 : decode cL_law 1516 = .ok (.aload_n 0, 1) := by decide +kernel
theorem dL_law_1517 : decode cL_law 1517 = .ok (.iload 4, 2) := by decide +kernel
theorem dL_law_1519 : decode cL_law 1519 = .ok (.iconst 1, 1) := by decide +kernel
theorem dL_law_1520 : decode cL_law 1520 = .ok (.iadd, 1) := by decide +kernel
theorem dL_law_1521 : decode cL_law 1521 = .ok (.iaload, 1) := by decide +kernel
theorem dL_law_1522 : decode cL_law 1522 = .ok (.invokevirtual 253, 3) := by decide +kernel
theorem dL_law_1525 : decode cL_law 1525 = .ok (.istore 6, 2) := by decide +kernel
theorem dL_law_1527 : decode cL_law 1527 = .ok (.aload_n 2, 1) := by decide +kernel
theorem dL_law_1528 : decode cL_law 1528 = .ok (.invokevirtual 137, 3) := by decide +kernel
theorem dL_law_1531 : decode cL_law 1531 = .ok (.iload 5, 2) := by decide +kernel
theorem dL_law_1533 : decode cL_law 1533 = .ok (.if_icmp .eq 5, 3) := by decide +kernel
theorem dL_law_1536 : decode cL_law 1536 = .ok (.iconst 0, 1) := by decide +kernel
theorem dL_law_1537 : decode cL_law 1537 = .ok (.ireturn, 1) := by decide +kernel
theorem dL_law_1538 : decode cL_law 1538 = .ok (.iload 5, 2) := by decide +kernel
theorem dL_law_1540 : decode cL_law 1540 = .ok (.ifCond .ne 15, 3) := by decide +kernel
theorem dL_law_1543 : decode cL_law 1543 = .ok (.aload_n 3, 1) := by decide +kernel
theorem dL_law_1544 : decode cL_law 1544 = .ok (.iconst 0, 1) := by decide +kernel
theorem dL_law_1545 : decode cL_law 1545 = .ok (.laload, 1) := by decide +kernel
theorem dL_law_1546 : decode cL_law 1546 = .ok (.iload 6, 2) := by decide +kernel
theorem dL_law_1548 : decode cL_law 1548 = .ok (.i2l, 1) := by decide +kernel
theorem dL_law_1549 : decode cL_law 1549 = .ok (.lcmp, 1) := by decide +kernel
theorem dL_law_1550 : decode cL_law 1550 = .ok (.ifCond .eq 5, 3) := by decide +kernel
theorem dL_law_1553 : decode cL_law 1553 = .ok (.iconst 0, 1) := by decide +kernel
theorem dL_law_1554 : decode cL_law 1554 = .ok (.ireturn, 1) := by decide +kernel
theorem dL_law_1555 : decode cL_law 1555 = .ok (.goto 1243, 3) := by decide +kernel
theorem dL_law_1558 : decode cL_law 1558 = .ok (.aload_n 1, 1) := by decide +kernel
theorem dL_law_1559 : decode cL_law 1559 = .ok (.invokevirtual 254, 3) := by decide +kernel
theorem dL_law_1562 : decode cL_law 1562 = .ok (.aload_n 2, 1) := by decide +kernel
theorem dL_law_1563 : decode cL_law 1563 = .ok (.invokevirtual 257, 3) := by decide +kernel
theorem dL_law_1566 : decode cL_law 1566 = .ok (.if_icmp .eq 1232, 3) := by decide +kernel
theorem dL_law_1569 : decode cL_law 1569 = .ok (.iconst 0, 1) := by decide +kernel
theorem dL_law_1570 : decode cL_law 1570 = .ok (.ireturn, 1) := by decide +kernel
theorem dL_law_1571 : decode cL_law 1571 = .ok (.aload_n 1, 1) := by decide +kernel
theorem dL_law_1572 : decode cL_law 1572 = .ok (.invokevirtual 258, 3) := by decide +kernel
theorem dL_law_1575 : decode cL_law 1575 = .ok (.aload_n 2, 1) := by decide +kernel
theorem dL_law_1576 : decode cL_law 1576 = .ok (.invokevirtual 261, 3) := by decide +kernel
theorem dL_law_1579 : decode cL_law 1579 = .ok (.if_icmp .eq 1219, 3) := by decide +kernel
theorem dL_law_1582 : decode cL_law 1582 = .ok (.iconst 0, 1) := by decide +kernel
theorem dL_law_1583 : decode cL_law 1583 = .ok (.ireturn, 1) := by decide +kernel
theorem dL_law_1584 : decode cL_law 1584 = .ok (.aload_n 1, 1) := by decide +kernel
theorem dL_law_1585 : decode cL_law 1585 = .ok (.invokevirtual 262, 3) := by decide +kernel
theorem dL_law_1588 : decode cL_law 1588 = .ok (.aload_n 2, 1) := by decide +kernel
theorem dL_law_1589 : decode cL_law 1589 = .ok (.invokevirtual 265, 3) := by decide +kernel
theorem dL_law_1592 : decode cL_law 1592 = .ok (.if_icmp .eq 1206, 3) := by decide +kernel
theorem dL_law_1595 : decode cL_law 1595 = .ok (.iconst 0, 1) := by decide +kernel
theorem dL_law_1596 : decode cL_law 1596 = .ok (.ireturn, 1) := by decide +kernel
theorem dL_law_1597 : decode cL_law 1597 = .ok (.aload_n 1, 1) := by decide +kernel
theorem dL_law_1598 : decode cL_law 1598 = .ok (.aload_n 3, 1) := by decide +kernel
theorem dL_law_1599 : decode cL_law 1599 = .ok (.invokestatic 266, 3) := by decide +kernel
theorem dL_law_1602 : decode cL_law 1602 = .ok (.istore 5, 2) := by decide +kernel
theorem dL_law_1604 : decode cL_law 1604 = .ok (.aload_n 2, 1) := by decide +kernel
theorem dL_law_1605 : decode cL_law 1605 = .ok (.invokevirtual 268, 3) := by decide +kernel
theorem dL_law_1608 : decode cL_law 1608 = .ok (.istore 6, 2) := by decide +kernel
theorem dL_law_1610 : decode cL_law 1610 = .ok (.aload_n 2, 1) := by decide +kernel
theorem dL_law_1611 : decode cL_law 1611 = .ok (.invokevirtual 137, 3) := by decide +kernel
theorem dL_law_1614 : decode cL_law 1614 = .ok (.iload 5, 2) := by decide +kernel
theorem dL_law_1616 : decode cL_law 1616 = .ok (.if_icmp .eq 5, 3) := by decide +kernel
theorem dL_law_1619 : decode cL_law 1619 = .ok (.iconst 0, 1) := by decide +kernel
theorem dL_law_1620 : decode cL_law 1620 = .ok (.ireturn, 1) := by decide +kernel
theorem dL_law_1621 : decode cL_law 1621 = .ok (.iload 5, 2) := by decide +kernel
theorem dL_law_1623 : decode cL_law 1623 = .ok (.ifCond .ne 15, 3) := by decide +kernel
theorem dL_law_1626 : decode cL_law 1626 = .ok (.aload_n 3, 1) := by decide +kernel
theorem dL_law_1627 : decode cL_law 1627 = .ok (.iconst 0, 1) := by decide +kernel
theorem dL_law_1628 : decode cL_law 1628 = .ok (.laload, 1) := by decide +kernel
theorem dL_law_1629 : decode cL_law 1629 = .ok (.iload 6, 2) := by decide +kernel
theorem dL_law_1631 : decode cL_law 1631 = .ok (.i2l, 1) := by decide +kernel
theorem dL_law_1632 : decode cL_law 1632 = .ok (.lcmp, 1) := by decide +kernel
theorem dL_law_1633 : decode cL_law 1633 = .ok (.ifCond .eq 5, 3) := by decide +kernel
theorem dL_law_1636 : decode cL_law 1636 = .ok (.iconst 0, 1) := by decide +kernel
theorem dL_law_1637 : decode cL_law 1637 = .ok (.ireturn, 1) := by decide +kernel
theorem dL_law_1638 : decode cL_law 1638 = .ok (.goto 1160, 3) := by decide +kernel
theorem dL_law_1641 : decode cL_law 1641 = .ok (.aload_n 1, 1) := by decide +kernel
theorem dL_law_1642 : decode cL_law 1642 = .ok (.invokevirtual 269, 3) := by decide +kernel
theorem dL_law_1645 : decode cL_law 1645 = .ok (.aload_n 2, 1) := by decide +kernel
theorem dL_law_1646 : decode cL_law 1646 = .ok (.invokevirtual 272, 3) := by decide +kernel
theorem dL_law_1649 : decode cL_law 1649 = .ok (.if_icmp .eq 1149, 3) := by decide +kernel
theorem dL_law_1652 : decode cL_law 1652 = .ok (.iconst 0, 1) := by decide +kernel
theorem dL_law_1653 : decode cL_law 1653 = .ok (.ireturn, 1) := by decide +kernel
theorem dL_law_1654 : decode cL_law 1654 = .ok (.aload_n 1, 1) := by decide +kernel
theorem dL_law_1655 : decode cL_law 1655 = .ok (.invokevirtual 273, 3) := by decide +kernel
theorem dL_law_1658 : decode cL_law 1658 = .ok (.aload_n 2, 1) := by decide +kernel
theorem dL_law_1659 : decode cL_law 1659 = .ok (.invokevirtual 276, 3) := by decide +kernel
theorem dL_law_1662 : decode cL_law 1662 = .ok (.if_icmp .eq 1136, 3) := by decide +kernel
theorem dL_law_1665 : decode cL_law 1665 = .ok (.iconst 0, 1) := by decide +kernel
theorem dL_law_1666 : decode cL_law 1666 = .ok (.ireturn, 1) := by decide +kernel
theorem dL_law_1667 : decode cL_law 1667 = .ok (.aload_n 1, 1) := by decide +kernel
theorem dL_law_1668 : decode cL_law 1668 = .ok (.invokevirtual 277, 3) := by decide +kernel
theorem dL_law_1671 : decode cL_law 1671 = .ok (.aload_n 2, 1) := by decide +kernel
theorem dL_law_1672 : decode cL_law 1672 = .ok (.invokevirtual 280, 3) := by decide +kernel
theorem dL_law_1675 : decode cL_law 1675 = .ok (.if_icmp .eq 1123, 3) := by decide +kernel
theorem dL_law_1678 : decode cL_law 1678 = .ok (.iconst 0, 1) := by decide +kernel
theorem dL_law_1679 : decode cL_law 1679 = .ok (.ireturn, 1) := by decide +kernel
theorem dL_law_1680 : decode cL_law 1680 = .ok (.aload_n 1, 1) := by decide +kernel
theorem dL_law_1681 : decode cL_law 1681 = .ok (.invokevirtual 281, 3) := by decide +kernel
theorem dL_law_1684 : decode cL_law 1684 = .ok (.aload_n 2, 1) := by decide +kernel
theorem dL_law_1685 : decode cL_law 1685 = .ok (.invokevirtual 284, 3) := by decide +kernel
theorem dL_law_1688 : decode cL_law 1688 = .ok (.if_icmp .eq 1110, 3) := by decide +kernel
theorem dL_law_1691 : decode cL_law 1691 = .ok (.iconst 0, 1) := by decide +kernel
theorem dL_law_1692 : decode cL_law 1692 = .ok (.ireturn, 1) := by decide +kernel
theorem dL_law_1693 : decode cL_law 1693 = .ok (.aload_n 1, 1) := by decide +kernel
theorem dL_law_1694 : decode cL_law 1694 = .ok (.invokevirtual 285, 3) := by decide +kernel
theorem dL_law_1697 : decode cL_law 1697 = .ok (.f2d, 1) := by decide +kernel
theorem dL_law_1698 : decode cL_law 1698 = .ok (.dstore 5, 2) := by decide +kernel
theorem dL_law_1700 : decode cL_law 1700 = .ok (.aload_n 2, 1) := by decide +kernel
theorem dL_law_1701 : decode cL_law 1701 = .ok (.invokevirtual 289, 3) := by decide +kernel
theorem dL_law_1704 : decode cL_law 1704 = .ok (.f2d, 1) := by decide +kernel
theorem dL_law_1705 : decode cL_law 1705 = .ok (.dstore 7, 2) := by decide +kernel
theorem dL_law_1707 : decode cL_law 1707 = .ok (.dload 5, 2) := by decide +kernel
theorem dL_law_1709 : decode cL_law 1709 = .ok (.dload 7, 2) := by decide +kernel
theorem dL_law_1711 : decode cL_law 1711 = .ok (.dcmp .l, 1) := by decide +kernel
theorem dL_law_1712 : decode cL_law 1712 = .ok (.ifCond .eq 21, 3) := by decide +kernel
theorem dL_law_1715 : decode cL_law 1715 = .ok (.dload 5, 2) := by decide +kernel
theorem dL_law_1717 : decode cL_law 1717 = .ok (.dload 5, 2) := by decide +kernel
theorem dL_law_1719 : decode cL_law 1719 = .ok (.dcmp .l, 1) := by decide +kernel
theorem dL_law_1720 : decode cL_law 1720 = .ok (.ifCond .eq 11, 3) := by decide +kernel
theorem dL_law_1723 : decode cL_law 1723 = .ok (.dload 7, 2) := by decide +kernel
theorem dL_law_1725 : decode cL_law 1725 = .ok (.dload 7, 2) := by decide +kernel
theorem dL_law_1727 : decode cL_law 1727 = .ok (.dcmp .l, 1) := by decide +kernel
theorem dL_law_1728 : decode cL_law 1728 = .ok (.ifCond .ne 5, 3) := by decide +kernel
theorem dL_law_1731 : decode cL_law 1731 = .ok (.iconst 0, 1) := by decide +kernel
theorem dL_law_1732 : decode cL_law 1732 = .ok (.ireturn, 1) := by decide +kernel
theorem dL_law_1733 : decode cL_law 1733 = .ok (.goto 1065, 3) := by decide +kernel
theorem dL_law_1736 : decode cL_law 1736 = .ok (.aload_n 1, 1) := by decide +kernel
theorem dL_law_1737 : decode cL_law 1737 = .ok (.invokevirtual 290, 3) := by decide +kernel
theorem dL_law_1740 : decode cL_law 1740 = .ok (.dstore 5, 2) := by decide +kernel
theorem dL_law_1742 : decode cL_law 1742 = .ok (.aload_n 2, 1) := by decide +kernel
theorem dL_law_1743 : decode cL_law 1743 = .ok (.invokevirtual 294, 3) := by decide +kernel
theorem dL_law_1746 : decode cL_law 1746 = .ok (.dstore 7, 2) := by decide +kernel
theorem dL_law_1748 : decode cL_law 1748 = .ok (.dload 5, 2) := by decide +kernel
theorem dL_law_1750 : decode cL_law 1750 = .ok (.dload 7, 2) := by decide +kernel
theorem dL_law_1752 : decode cL_law 1752 = .ok (.dcmp .l, 1) := by decide +kernel
theorem dL_law_1753 : decode cL_law 1753 = .ok (.ifCond .eq 21, 3) := by decide +kernel
theorem dL_law_1756 : decode cL_law 1756 = .ok (.dload 5, 2) := by decide +kernel
theorem dL_law_1758 : decode cL_law 1758 = .ok (.dload 5, 2) := by decide +kernel
theorem dL_law_1760 : decode cL_law 1760 = .ok (.dcmp .l, 1) := by decide +kernel
theorem dL_law_1761 : decode cL_law 1761 = .ok (.ifCond .eq 11, 3) := by decide +kernel
theorem dL_law_1764 : decode cL_law 1764 = .ok (.dload 7, 2) := by decide +kernel
theorem dL_law_1766 : decode cL_law 1766 = .ok (.dload 7, 2) := by decide +kernel
theorem dL_law_1768 : decode cL_law 1768 = .ok (.dcmp .l, 1) := by decide +kernel
theorem dL_law_1769 : decode cL_law 1769 = .ok (.ifCond .ne 5, 3) := by decide +kernel
theorem dL_law_1772 : decode cL_law 1772 = .ok (.iconst 0, 1) := by decide +kernel
theorem dL_law_1773 : decode cL_law 1773 = .ok (.ireturn, 1) := by decide +kernel
theorem dL_law_1774 : decode cL_law 1774 = .ok (.goto 1024, 3) := by decide +kernel
theorem dL_law_1777 : decode cL_law 1777 = .ok (.aload_n 1, 1) := by decide +kernel
theorem dL_law_1778 : decode cL_law 1778 = .ok (.invokevirtual 295, 3) := by decide +kernel
theorem dL_law_1781 : decode cL_law 1781 = .ok (.aload_n 2, 1) := by decide +kernel
theorem dL_law_1782 : decode cL_law 1782 = .ok (.invokevirtual 298, 3) := by decide +kernel
theorem dL_law_1785 : decode cL_law 1785 = .ok (.if_icmp .eq 1013, 3) := by decide +kernel
theorem dL_law_1788 : decode cL_law 1788 = .ok (.iconst 0, 1) := by decide +kernel
theorem dL_law_1789 : decode cL_law 1789 = .ok (.ireturn, 1) := by decide +kernel
theorem dL_law_1790 : decode cL_law 1790 = .ok (.aload_n 1, 1) := by decide +kernel
theorem dL_law_1791 : decode cL_law 1791 = .ok (.invokevirtual 299, 3) := by decide +kernel
theorem dL_law_1794 : decode cL_law 1794 = .ok (.aload_n 2, 1) := by decide +kernel
theorem dL_law_1795 : decode cL_law 1795 = .ok (.invokevirtual 302, 3) := by decide +kernel
theorem dL_law_1798 : decode cL_law 1798 = .ok (.if_icmp .eq 1000, 3) := by decide +kernel
theorem dL_law_1801 : decode cL_law 1801 = .ok (.iconst 0, 1) := by decide +kernel
theorem dL_law_1802 : decode cL_law 1802 = .ok (.ireturn, 1) := by decide +kernel
theorem dL_law_1803 : decode cL_law 1803 = .ok (.aload_n 1, 1) := by decide +kernel
theorem dL_law_1804 : decode cL_law 1804 = .ok (.aload_n 0, 1) := by decide +kernel
theorem dL_law_1805 : decode cL_law 1805 = .ok (.iload 4, 2) := by decide +kernel
theorem dL_law_1807 : decode cL_law 1807 = .ok (.iconst 1, 1) := by decide +kernel
theorem dL_law_1808 : decode cL_law 1808 = .ok (.iadd, 1) := by decide +kernel
theorem dL_law_1809 : decode cL_law 1809 = .ok (.iaload, 1) := by decide +kernel
theorem dL_law_1810 : decode cL_law 1810 = .ok (.aload_n 3, 1) := by decide +kernel
theorem dL_law_1811 : decode cL_law 1811 = .ok (.invokestatic 303, 3) := by decide +kernel
theorem dL_law_1814 : decode cL_law 1814 = .ok (.istore 5, 2) := by decide +kernel
theorem dL_law_1816 : decode cL_law 1816 = .ok (.aload_n 2, 1) := by decide +kernel
theorem dL_law_1817 : decode cL_law 1817 = .ok (.aload_n 0, 1) := by decide +kernel
theorem dL_law_1818 : decode cL_law 1818 = .ok (.iload 4, 2) := by decide +kernel
theorem dL_law_1820 : decode cL_law 1820 = .ok (.iconst 1, 1) := by decide +kernel
theorem dL_law_1821 : decode cL_law 1821 = .ok (.iadd, 1) := by decide +kernel
theorem dL_law_1822 : decode cL_law 1822 = .ok (.iaload, 1) := by decide +kernel
theorem dL_law_1823 : decode cL_law 1823 = .ok (.invokevirtual 305, 3) := by decide +kernel
theorem dL_law_1826 : decode cL_law 1826 = .ok (.istore 6, 2) := by decide +kernel
theorem dL_law_1828 : decode cL_law 1828 = .ok (.aload_n 2, 1) := by decide +kernel
theorem dL_law_1829 : decode cL_law 1829 = .ok (.invokevirtual 137, 3) := by decide +kernel
theorem dL_law_1832 : decode cL_law 1832 = .ok (.iload 5, 2) := by decide +kernel
theorem dL_law_1834 : decode cL_law 1834 = .ok (.if_icmp .eq 5, 3) := by decide +kernel
theorem dL_law_1837 : decode cL_law 1837 = .ok (.iconst 0, 1) := by decide +kernel
theorem dL_law_1838 : decode cL_law 1838 = .ok (.ireturn, 1) := by decide +kernel
theorem dL_law_1839 : decode cL_law 1839 = .ok (.iload 5, 2) := by decide +kernel
theorem dL_law_1841 : decode cL_law 1841 = .ok (.ifCond .ne 15, 3) := by decide +kernel
theorem dL_law_1844 : decode cL_law 1844 = .ok (.aload_n 3, 1) := by decide +kernel
theorem dL_law_1845 : decode cL_law 1845 = .ok (.iconst 0, 1) := by decide +kernel
theorem dL_law_1846 : decode cL_law 1846 = .ok (.laload, 1) := by decide +kernel
theorem dL_law_1847 : decode cL_law 1847 = .ok (.iload 6, 2) := by decide +kernel
theorem dL_law_1849 : decode cL_law 1849 = .ok (.i2l, 1) := by decide +kernel
theorem dL_law_1850 : decode cL_law 1850 = .ok (.lcmp, 1) := by decide +kernel
theorem dL_law_1851 : decode cL_law 1851 = .ok (.ifCond .eq 5, 3) := by decide +kernel
theorem dL_law_1854 : decode cL_law 1854 = .ok (.iconst 0, 1) := by decide +kernel
theorem dL_law_1855 : decode cL_law 1855 = .ok (.ireturn, 1) := by decide +kernel
theorem dL_law_1856 : decode cL_law 1856 = .ok (.goto 942, 3) := by decide +kernel
theorem dL_law_1859 : decode cL_law 1859 = .ok (.aload_n 1, 1) := by decide +kernel
theorem dL_law_1860 : decode cL_law 1860 = .ok (.aload_n 0, 1) := by decide +kernel
theorem dL_law_1861 : decode cL_law 1861 = .ok (.iload 4, 2) := by decide +kernel
theorem dL_law_1863 : decode cL_law 1863 = .ok (.iconst 1, 1) := by decide +kernel
theorem dL_law_1864 : decode cL_law 1864 = .ok (.iadd, 1) := by decide +kernel
theorem dL_law_1865 : decode cL_law 1865 = .ok (.iaload, 1) := by decide +kernel
theorem dL_law_1866 : decode cL_law 1866 = .ok (.aload_n 3, 1) := by decide +kernel
theorem dL_law_1867 : decode cL_law 1867 = .ok (.invokestatic 306, 3) := by decide +kernel
theorem dL_law_1870 : decode cL_law 1870 = .ok (.istore 5, 2) := by decide +kernel
theorem dL_law_1872 : decode cL_law 1872 = .ok (.aload_n 2, 1) := by decide +kernel
theorem dL_law_1873 : decode cL_law 1873 = .ok (.aload_n 0, 1) := by decide +kernel
theorem dL_law_1874 : decode cL_law 1874 = .ok (.iload 4, 2) := by decide +kernel
theorem dL_law_1876 : decode cL_law 1876 = .ok (.iconst 1, 1) := by decide +kernel
theorem dL_law_1877 : decode cL_law 1877 = .ok (.iadd, 1) := by decide +kernel
theorem dL_law_1878 : decode cL_law 1878 = .ok (.iaload, 1) := by decide +kernel
theorem dL_law_1879 : decode cL_law 1879 = .ok (.invokevirtual 308, 3) := by decide +kernel
theorem dL_law_1882 : decode cL_law 1882 = .ok (.istore 6, 2) := by decide +kernel
theorem dL_law_1884 : decode cL_law 1884 = .ok (.aload_n 2, 1) := by decide +kernel
theorem dL_law_1885 : decode cL_law 1885 = .ok (.invokevirtual 137, 3) := by decide +kernel
theorem dL_law_1888 : decode cL_law 1888 = .ok (.iload 5, 2) := by decide +kernel
theorem dL_law_1890 : decode cL_law 1890 = .ok (.if_icmp .eq 5, 3) := by decide +kernel
theorem dL_law_1893 : decode cL_law 1893 = .ok (.iconst 0, 1) := by decide +kernel
theorem dL_law_1894 : decode cL_law 1894 = .ok (.ireturn, 1) := by decide +kernel
theorem dL_law_1895 : decode cL_law 1895 = .ok (.iload 5, 2) := by decide +kernel
theorem dL_law_1897 : decode cL_law 1897 = .ok (.ifCond .ne 15, 3) := by decide +kernel
theorem dL_law_1900 : decode cL_law 1900 = .ok (.aload_n 3, 1) := by decide +kernel
theorem dL_law_1901 : decode cL_law 1901 = .ok (.iconst 0, 1) := by decide +kernel
theorem dL_law_1902 : decode cL_law 1902 = .ok (.laload, 1) := by decide +kernel
theorem dL_law_1903 : decode cL_law 1903 = .ok (.iload 6, 2) := by decide +kernel
theorem dL_law_1905 : decode cL_law 1905 = .ok (.i2l, 1) := by decide +kernel
theorem dL_law_1906 : decode cL_law 1906 = .ok (.lcmp, 1) := by decide +kernel
theorem dL_law_1907 : decode cL_law 1907 = .ok (.ifCond .eq 5, 3) := by decide +kernel
theorem dL_law_1910 : decode cL_law 1910 = .ok (.iconst 0, 1) := by decide +kernel
theorem dL_law_1911 : decode cL_law 1911 = .ok (.ireturn, 1) := by decide +kernel
theorem dL_law_1912 : decode cL_law 1912 = .ok (.goto 886, 3) := by decide +kernel
theorem dL_law_1915 : decode cL_law 1915 = .ok (.aload_n 1, 1) := by decide +kernel
theorem dL_law_1916 : decode cL_law 1916 = .ok (.aload_n 0, 1) := by decide +kernel
theorem dL_law_1917 : decode cL_law 1917 = .ok (.iload 4, 2) := by decide +kernel
theorem dL_law_1919 : decode cL_law 1919 = .ok (.iconst 1, 1) := by decide +kernel
theorem dL_law_1920 : decode cL_law 1920 = .ok (.iadd, 1) := by decide +kernel
theorem dL_law_1921 : decode cL_law 1921 = .ok (.iaload, 1) := by decide +kernel
theorem dL_law_1922 : decode cL_law 1922 = .ok (.aload_n 3, 1) := by decide +kernel
theorem dL_law_1923 : decode cL_law 1923 = .ok (.invokestatic 309, 3) := by decide +kernel
theorem dL_law_1926 : decode cL_law 1926 = .ok (.istore 5, 2) := by decide +kernel
theorem dL_law_1928 : decode cL_law 1928 = .ok (.aload_n 2, 1) := by decide +kernel
theorem dL_law_1929 : decode cL_law 1929 = .ok (.aload_n 0, 1) := by decide +kernel
theorem dL_law_1930 : decode cL_law 1930 = .ok (.iload 4, 2) := by decide +kernel
theorem dL_law_1932 : decode cL_law 1932 = .ok (.iconst 1, 1) := by decide +kernel
theorem dL_law_1933 : decode cL_law 1933 = .ok (.iadd, 1) := by decide +kernel
theorem dL_law_1934 : decode cL_law 1934 = .ok (.iaload, 1) := by decide +kernel
theorem dL_law_1935 : decode cL_law 1935 = .ok (.invokevirtual 311, 3) := by decide +kernel
theorem dL_law_1938 : decode cL_law 1938 = .ok (.istore 6, 2) := by decide +kernel
theorem dL_law_1940 : decode cL_law 1940 = .ok (.aload_n 2, 1) := by decide +kernel
theorem dL_law_1941 : decode cL_law 1941 = .ok (.invokevirtual 137, 3) := by decide +kernel
theorem dL_law_1944 : decode cL_law 1944 = .ok (.iload 5, 2) := by decide +kernel
theorem dL_law_1946 : decode cL_law 1946 = .ok (.if_icmp .eq 5, 3) := by decide +kernel
theorem dL_law_1949 : decode cL_law 1949 = .ok (.iconst 0, 1) := by decide +kernel
theorem dL_law_1950 : decode cL_law 1950 = .ok (.ireturn, 1) := by decide +kernel
theorem dL_law_1951 : decode cL_law 1951 = .ok (.iload 5, 2) := by decide +kernel
theorem dL_law_1953 : decode cL_law 1953 = .ok (.ifCond .ne 15, 3) := by decide +kernel
theorem dL_law_1956 : decode cL_law 1956 = .ok (.aload_n 3, 1) := by decide +kernel
theorem dL_law_1957 : decode cL_law 1957 = .ok (.iconst 0, 1) := by decide +kernel
theorem dL_law_1958 : decode cL_law 1958 = .ok (.laload, 1) := by decide +kernel
theorem dL_law_1959 : decode cL_law 1959 = .ok (.iload 6, 2) := by decide +kernel
theorem dL_law_1961 : decode cL_law 1961 = .ok (.i2l, 1) := by decide +kernel
theorem dL_law_1962 : decode cL_law 1962 = .ok (.lcmp, 1) := by decide +kernel
theorem dL_law_1963 : decode cL_law 1963 = .ok (.ifCond .eq 5, 3) := by decide +kernel
theorem dL_law_1966 : decode cL_law 1966 = .ok (.iconst 0, 1) := by decide +kernel
theorem dL_law_1967 : decode cL_law 1967 = .ok (.ireturn, 1) := by decide +kernel
theorem dL_law_1968 : decode cL_law 1968 = .ok (.goto 830, 3) := by decide +kernel
theorem dL_law_1971 : decode cL_law 1971 = .ok (.aload_n 1, 1) := by decide +kernel
theorem dL_law_1972 : decode cL_law 1972 = .ok (.aload_n 0, 1) := by decide +kernel
theorem dL_law_1973 : decode cL_law 1973 = .ok (.iload 4, 2) := by decide +kernel
theorem dL_law_1975 : decode cL_law 1975 = .ok (.iconst 1, 1) := by decide +kernel
theorem dL_law_1976 : decode cL_law 1976 = .ok (.iadd, 1) := by decide +kernel
theorem dL_law_1977 : decode cL_law 1977 = .ok (.iaload, 1) := by decide +kernel
theorem dL_law_1978 : decode cL_law 1978 = .ok (.aload_n 3, 1) := by decide +kernel
theorem dL_law_1979 : decode cL_law 1979 = .ok (.invokestatic 312, 3) := by decide +kernel
theorem dL_law_1982 : decode cL_law 1982 = .ok (.istore 5, 2) := by decide +kernel
theorem dL_law_1984 : decode cL_law 1984 = .ok (.aload_n 2, 1) := by decide +kernel
theorem dL_law_1985 : decode cL_law 1985 = .ok (.aload_n 0, 1) := by decide +kernel
theorem dL_law_1986 : decode cL_law 1986 = .ok (.iload 4, 2) := by decide +kernel
theorem dL_law_1988 : decode cL_law 1988 = .ok (.iconst 1, 1) := by decide +kernel
theorem dL_law_1989 : decode cL_law 1989 = .ok (.iadd, 1) := by decide +kernel
theorem dL_law_1990 : decode cL_law 1990 = .ok (.iaload, 1) := by decide +kernel
theorem dL_law_1991 : decode cL_law 1991 = .ok (.invokevirtual 314, 3) := by decide +kernel
theorem dL_law_1994 : decode cL_law 1994 = .ok (.istore 6, 2) := by decide +kernel
theorem dL_law_1996 : decode cL_law 1996 = .ok (.aload_n 2, 1) := by decide +kernel
theorem dL_law_1997 : decode cL_law 1997 = .ok (.invokevirtual 137, 3) := by decide +kernel
theorem dL_law_2000 : decode cL_law 2000 = .ok (.iload 5, 2) := by decide +kernel
theorem dL_law_2002 : decode cL_law 2002 = .ok (.if_icmp .eq 5, 3) := by decide +kernel
theorem dL_law_2005 : decode cL_law 2005 = .ok (.iconst 0, 1) := by decide +kernel
theorem dL_law_2006 : decode cL_law 2006 = .ok (.ireturn, 1) := by decide +kernel
theorem dL_law_2007 : decode cL_law 2007 = .ok (.iload 5, 2) := by decide +kernel
theorem dL_law_2009 : decode cL_law 2009 = .ok (.ifCond .ne 15, 3) := by decide +kernel
theorem dL_law_2012 : decode cL_law 2012 = .ok (.aload_n 3, 1) := by decide +kernel
theorem dL_law_2013 : decode cL_law 2013 = .ok (.iconst 0, 1) := by decide +kernel
theorem dL_law_2014 : decode cL_law 2014 = .ok (.laload, 1) := by decide +kernel
theorem dL_law_2015 : decode cL_law 2015 = .ok (.iload 6, 2) := by decide +kernel
theorem dL_law_2017 : decode cL_law 2017 = .ok (.i2l, 1) := by decide +kernel
theorem dL_law_2018 : decode cL_law 2018 = .ok (.lcmp, 1) := by decide +kernel
theorem dL_law_2019 : decode cL_law 2019 = .ok (.ifCond .eq 5, 3) := by decide +kernel
theorem dL_law_2022 : decode cL_law 2022 = .ok (.iconst 0, 1) := by decide +kernel
theorem dL_law_2023 : decode cL_law 2023 = .ok (.ireturn, 1) := by decide +kernel
theorem dL_law_2024 : decode cL_law 2024 = .ok (.goto 774, 3) := by decide +kernel
theorem dL_law_2027 : decode cL_law 2027 = .ok (.aload_n 1, 1) := by decide +kernel
theorem dL_law_2028 : decode cL_law 2028 = .ok (.invokevirtual 315, 3) := by decide +kernel
theorem dL_law_2031 : decode cL_law 2031 = .ok (.aload_n 2, 1) := by decide +kernel
theorem dL_law_2032 : decode cL_law 2032 = .ok (.invokevirtual 318, 3) := by decide +kernel
theorem dL_law_2035 : decode cL_law 2035 = .ok (.if_icmp .eq 763, 3) := by decide +kernel
theorem dL_law_2038 : decode cL_law 2038 = .ok (.iconst 0, 1) := by decide +kernel
theorem dL_law_2039 : decode cL_law 2039 = .ok (.ireturn, 1) := by decide +kernel
theorem dL_law_2040 : decode cL_law 2040 = .ok (.aload_n 1, 1) := by decide +kernel
theorem dL_law_2041 : decode cL_law 2041 = .ok (.invokevirtual 319, 3) := by decide +kernel
theorem dL_law_2044 : decode cL_law 2044 = .ok (.aload_n 2, 1) := by decide +kernel
theorem dL_law_2045 : decode cL_law 2045 = .ok (.invokevirtual 322, 3) := by decide +kernel
theorem dL_law_2048 : decode cL_law 2048 = .ok (.if_icmp .eq 750, 3) := by decide +kernel
theorem dL_law_2051 : decode cL_law 2051 = .ok (.iconst 0, 1) := by decide +kernel
theorem dL_law_2052 : decode cL_law 2052 = .ok (.ireturn, 1) := by decide +kernel
theorem dL_law_2053 : decode cL_law 2053 = .ok (.aload_n 1, 1) := by decide +kernel
theorem dL_law_2054 : decode cL_law 2054 = .ok (.aload_n 0, 1) := by decide +kernel
theorem dL_law_2055 : decode cL_law 2055 = .ok (.iload 4, 2) := by decide +kernel
theorem dL_law_2057 : decode cL_law 2057 = .ok (.iconst 1, 1) := by decide +kernel
theorem dL_law_2058 : decode cL_law 2058 = .ok (.iadd, 1) := by decide +kernel
theorem dL_law_2059 : decode cL_law 2059 = .ok (.iaload, 1) := by decide +kernel
theorem dL_law_2060 : decode cL_law 2060 = .ok (.aload_n 0, 1) := by decide +kernel
theorem dL_law_2061 : decode cL_law 2061 = .ok (.iload 4, 2) := by decide +kernel
theorem dL_law_2063 : decode cL_law 2063 = .ok (.iconst 2, 1) := by decide +kernel
theorem dL_law_2064 : decode cL_law 2064 = .ok (.iadd, 1) := by decide +kernel
theorem dL_law_2065 : decode cL_law 2065 = .ok (.iaload, 1) := by decide +kernel
theorem dL_law_2066 : decode cL_law 2066 = .ok (.aload_n 0, 1) := by decide +kernel
theorem dL_law_2067 : decode cL_law 2067 = .ok (.iload 4, 2) := by decide +kernel
theorem dL_law_2069 : decode cL_law 2069 = .ok (.iconst 3, 1) := by decide +kernel
theorem dL_law_2070 : decode cL_law 2070 = .ok (.iadd, 1) := by decide +kernel
theorem dL_law_2071 : decode cL_law 2071 = .ok (.iaload, 1) := by decide +kernel
theorem dL_law_2072 : decode cL_law 2072 = .ok (.aload_n 0, 1) := by decide +kernel
theorem dL_law_2073 : decode cL_law 2073 = .ok (.iload 4, 2) := by decide +kernel
theorem dL_law_2075 : decode cL_law 2075 = .ok (.iconst 4, 1) := by decide +kernel
theorem dL_law_2076 : decode cL_law 2076 = .ok (.iadd, 1) := by decide +kernel
theorem dL_law_2077 : decode cL_law 2077 = .ok (.iaload, 1) := by decide +kernel
theorem dL_law_2078 : decode cL_law 2078 = .ok (.aload_n 0, 1) := by decide +kernel
theorem dL_law_2079 : decode cL_law 2079 = .ok (.iload 4, 2) := by decide +kernel
theorem dL_law_2081 : decode cL_law 2081 = .ok (.iconst 5, 1) := by decide +kernel
theorem dL_law_2082 : decode cL_law 2082 = .ok (.iadd, 1) := by decide +kernel
theorem dL_law_2083 : decode cL_law 2083 = .ok (.iaload, 1) := by decide +kernel
theorem dL_law_2084 : decode cL_law 2084 = .ok (.aload_n 3, 1) := by decide +kernel
theorem dL_law_2085 : decode cL_law 2085 = .ok (.invokestatic 323, 3) := by decide +kernel
theorem dL_law_2088 : decode cL_law 2088 = .ok (.istore 5, 2) := by decide +kernel
theorem dL_law_2090 : decode cL_law 2090 = .ok (.aload_n 2, 1) := by decide +kernel
theorem dL_law_2091 : decode cL_law 2091 = .ok (.aload_n 0, 1) := by decide +kernel
theorem dL_law_2092 : decode cL_law 2092 = .ok (.iload 4, 2) := by decide +kernel
theorem dL_law_2094 : decode cL_law 2094 = .ok (.iconst 1, 1) := by decide +kernel
theorem dL_law_2095 : decode cL_law 2095 = .ok (.iadd, 1) := by decide +kernel
theorem dL_law_2096 : decode cL_law 2096 = .ok (.iaload, 1) := by decide +kernel
theorem dL_law_2097 : decode cL_law 2097 = .ok (.aload_n 0, 1) := by decide +kernel
theorem dL_law_2098 : decode cL_law 2098 = .ok (.iload 4, 2) := by decide +kernel
theorem dL_law_2100 : decode cL_law 2100 = .ok (.iconst 2, 1) := by decide +kernel
theorem dL_law_2101 : decode cL_law 2101 = .ok (.iadd, 1) := by decide +kernel
theorem dL_law_2102 : decode cL_law 2102 = .ok (.iaload, 1) := by decide +kernel
theorem dL_law_2103 : decode cL_law 2103 = .ok (.aload_n 0, 1) := by decide +kernel
theorem dL_law_2104 : decode cL_law 2104 = .ok (.iload 4, 2) := by decide +kernel
theorem dL_law_2106 : decode cL_law 2106 = .ok (.iconst 3, 1) := by decide +kernel
theorem dL_law_2107 : decode cL_law 2107 = .ok (.iadd, 1) := by decide +kernel
theorem dL_law_2108 : decode cL_law 2108 = .ok (.iaload, 1) := by decide +kernel
theorem dL_law_2109 : decode cL_law 2109 = .ok (.aload_n 0, 1) := by decide +kernel
theorem dL_law_2110 : decode cL_law 2110 = .ok (.iload 4, 2) := by decide +kernel
theorem dL_law_2112 : decode cL_law 2112 = .ok (.iconst 4, 1) := by decide +kernel
theorem dL_law_2113 : decode cL_law 2113 = .ok (.iadd, 1) := by decide +kernel
theorem dL_law_2114 : decode cL_law 2114 = .ok (.iaload, 1) := by decide +kernel
theorem dL_law_2115 : decode cL_law 2115 = .ok (.aload_n 0, 1) := by decide +kernel
theorem dL_law_2116 : decode cL_law 2116 = .ok (.iload 4, 2) := by decide +kernel
theorem dL_law_2118 : decode cL_law 2118 = .ok (.iconst 5, 1) := by decide +kernel
theorem dL_law_2119 : decode cL_law 2119 = .ok (.iadd, 1) := by decide +kernel
theorem dL_law_2120 : decode cL_law 2120 = .ok (.iaload, 1) := by decide +kernel
theorem dL_law_2121 : decode cL_law 2121 = .ok (.invokevirtual 325, 3) := by decide +kernel
theorem dL_law_2124 : decode cL_law 2124 = .ok (.istore 6, 2) := by decide +kernel
theorem dL_law_2126 : decode cL_law 2126 = .ok (.aload_n 2, 1) := by decide +kernel
theorem dL_law_2127 : decode cL_law 2127 = .ok (.invokevirtual 137, 3) := by decide +kernel
theorem dL_law_2130 : decode cL_law 2130 = .ok (.iload 5, 2) := by decide +kernel
theorem dL_law_2132 : decode cL_law 2132 = .ok (.if_icmp .eq 5, 3) := by decide +kernel
theorem dL_law_2135 : decode cL_law 2135 = .ok (.iconst 0, 1) := by decide +kernel
theorem dL_law_2136 : decode cL_law 2136 = .ok (.ireturn, 1) := by decide +kernel
theorem dL_law_2137 : decode cL_law 2137 = .ok (.iload 5, 2) := by decide +kernel
theorem dL_law_2139 : decode cL_law 2139 = .ok (.ifCond .ne 15, 3) := by decide +kernel
theorem dL_law_2142 : decode cL_law 2142 = .ok (.aload_n 3, 1) := by decide +kernel
theorem dL_law_2143 : decode cL_law 2143 = .ok (.iconst 0, 1) := by decide +kernel
theorem dL_law_2144 : decode cL_law 2144 = .ok (.laload, 1) := by decide +kernel
theorem dL_law_2145 : decode cL_law 2145 = .ok (.iload 6, 2) := by decide +kernel
theorem dL_law_2147 : decode cL_law 2147 = .ok (.i2l, 1) := by decide +kernel
theorem dL_law_2148 : decode cL_law 2148 = .ok (.lcmp, 1) := by decide +kernel
theorem dL_law_2149 : decode cL_law 2149 = .ok (.ifCond .eq 5, 3) := by decide +kernel
theorem dL_law_2152 : decode cL_law 2152 = .ok (.iconst 0, 1) := by decide +kernel
theorem dL_law_2153 : decode cL_law 2153 = .ok (.ireturn, 1) := by decide +kernel
theorem dL_law_2154 : decode cL_law 2154 = .ok (.goto 644, 3) := by decide +kernel
theorem dL_law_2157 : decode cL_law 2157 = .ok (.aload_n 1, 1) := by decide +kernel
theorem dL_law_2158 : decode cL_law 2158 = .ok (.aload_n 0, 1) := by decide +kernel
theorem dL_law_2159 : decode cL_law 2159 = .ok (.iload 4, 2) := by decide +kernel
theorem dL_law_2161 : decode cL_law 2161 = .ok (.iconst 1, 1) := by decide +kernel
theorem dL_law_2162 : decode cL_law 2162 = .ok (.iadd, 1) := by decide +kernel
theorem dL_law_2163 : decode cL_law 2163 = .ok (.iaload, 1) := by decide +kernel
theorem dL_law_2164 : decode cL_law 2164 = .ok (.aload_n 3, 1) := by decide +kernel
theorem dL_law_2165 : decode cL_law 2165 = .ok (.invokestatic 326, 3) := by decide +kernel
theorem dL_law_2168 : decode cL_law 2168 = .ok (.istore 5, 2) := by decide +kernel
theorem dL_law_2170 : decode cL_law 2170 = .ok (.aload_n 2, 1) := by decide +kernel
theorem dL_law_2171 : decode cL_law 2171 = .ok (.aload_n 0, 1) := by decide +kernel
theorem dL_law_2172 : decode cL_law 2172 = .ok (.iload 4, 2) := by decide +kernel
theorem dL_law_2174 : decode cL_law 2174 = .ok (.iconst 1, 1) := by decide +kernel
theorem dL_law_2175 : decode cL_law 2175 = .ok (.iadd, 1) := by decide +kernel
theorem dL_law_2176 : decode cL_law 2176 = .ok (.iaload, 1) := by decide +kernel
theorem dL_law_2177 : decode cL_law 2177 = .ok (.invokevirtual 328, 3) := by decide +kernel
theorem dL_law_2180 : decode cL_law 2180 = .ok (.istore 6, 2) := by decide +kernel
theorem dL_law_2182 : decode cL_law 2182 = .ok (.aload_n 2, 1) := by decide +kernel
theorem dL_law_2183 : decode cL_law 2183 = .ok (.invokevirtual 137, 3) := by decide +kernel
theorem dL_law_2186 : decode cL_law 2186 = .ok (.iload 5, 2) := by decide +kernel
theorem dL_law_2188 : decode cL_law 2188 = .ok (.if_icmp .eq 5, 3) := by decide +kernel
theorem dL_law_2191 : decode cL_law 2191 = .ok (.iconst 0, 1) := by decide +kernel
theorem dL_law_2192 : decode cL_law 2192 = .ok (.ireturn, 1) := by decide +kernel
theorem dL_law_2193 : decode cL_law 2193 = .ok (.iload 5, 2) := by decide +kernel
theorem dL_law_2195 : decode cL_law 2195 = .ok (.ifCond .ne 15, 3) := by decide +kernel
theorem dL_law_2198 : decode cL_law 2198 = .ok (.aload_n 3, 1) := by decide +kernel
theorem dL_law_2199 : decode cL_law 2199 = .ok (.iconst 0, 1) := by decide +kernel
theorem dL_law_2200 : decode cL_law 2200 = .ok (.laload, 1) := by decide +kernel
theorem dL_law_2201 : decode cL_law 2201 = .ok (.iload 6, 2) := by decide +kernel
theorem dL_law_2203 : decode cL_law 2203 = .ok (.i2l, 1) := by decide +kernel
theorem dL_law_2204 : decode cL_law 2204 = .ok (.lcmp, 1) := by decide +kernel
theorem dL_law_2205 : decode cL_law 2205 = .ok (.ifCond .eq 5, 3) := by decide +kernel
theorem dL_law_2208 : decode cL_law 2208 = .ok (.iconst 0, 1) := by decide +kernel
theorem dL_law_2209 : decode cL_law 2209 = .ok (.ireturn, 1) := by decide +kernel
theorem dL_law_2210 : decode cL_law 2210 = .ok (.goto 588, 3) := by decide +kernel
theorem dL_law_2213 : decode cL_law 2213 = .ok (.aload_n 1, 1) := by decide +kernel
theorem dL_law_2214 : decode cL_law 2214 = .ok (.aload_n 0, 1) := by decide +kernel
theorem dL_law_2215 : decode cL_law 2215 = .ok (.iload 4, 2) := by decide +kernel
theorem dL_law_2217 : decode cL_law 2217 = .ok (.iconst 1, 1) := by decide +kernel
theorem dL_law_2218 : decode cL_law 2218 = .ok (.iadd, 1) := by decide +kernel
theorem dL_law_2219 : decode cL_law 2219 = .ok (.iaload, 1) := by decide +kernel
theorem dL_law_2220 : decode cL_law 2220 = .ok (.aload_n 3, 1) := by decide +kernel
theorem dL_law_2221 : decode cL_law 2221 = .ok (.invokestatic 329, 3) := by decide +kernel
theorem dL_law_2224 : decode cL_law 2224 = .ok (.istore 5, 2) := by decide +kernel
theorem dL_law_2226 : decode cL_law 2226 = .ok (.aload_n 2, 1) := by decide +kernel
theorem dL_law_2227 : decode cL_law 2227 = .ok (.aload_n 0, 1) := by decide +kernel
theorem dL_law_2228 : decode cL_law 2228 = .ok (.iload 4, 2) := by decide +kernel
theorem dL_law_2230 : decode cL_law 2230 = .ok (.iconst 1, 1) := by decide +kernel
theorem dL_law_2231 : decode cL_law 2231 = .ok (.iadd, 1) := by decide +kernel
theorem dL_law_2232 : decode cL_law 2232 = .ok (.iaload, 1) := by decide +kernel
theorem dL_law_2233 : decode cL_law 2233 = .ok (.invokevirtual 331, 3) := by decide +kernel
theorem dL_law_2236 : decode cL_law 2236 = .ok (.istore 6, 2) := by decide +kernel
theorem dL_law_2238 : decode cL_law 2238 = .ok (.aload_n 2, 1) := by decide +kernel
theorem dL_law_2239 : decode cL_law 2239 = .ok (.invokevirtual 137, 3) := by decide +kernel
theorem dL_law_2242 : decode cL_law 2242 = .ok (.iload 5, 2) := by decide +kernel
theorem dL_law_2244 : decode cL_law 2244 = .ok (.if_icmp .eq 5, 3) := by decide +kernel
theorem dL_law_2247 : decode cL_law 2247 = .ok (.iconst 0, 1) := by decide +kernel
theorem dL_law_2248 : decode cL_law 2248 = .ok (.ireturn, 1) := by decide +kernel
theorem dL_law_2249 : decode cL_law 2249 = .ok (.iload 5, 2) := by decide +kernel
theorem dL_law_2251 : decode cL_law 2251 = .ok (.ifCond .ne 15, 3) := by decide +kernel
theorem dL_law_2254 : decode cL_law 2254 = .ok (.aload_n 3, 1) := by decide +kernel
theorem dL_law_2255 : decode cL_law 2255 = .ok (.iconst 0, 1) := by decide +kernel
theorem dL_law_2256 : decode cL_law 2256 = .ok (.laload, 1) := by decide +kernel
theorem dL_law_2257 : decode cL_law 2257 = .ok (.iload 6, 2) := by decide +kernel
theorem dL_law_2259 : decode cL_law 2259 = .ok (.i2l, 1) := by decide +kernel
theorem dL_law_2260 : decode cL_law 2260 = .ok (.lcmp, 1) := by decide +kernel
theorem dL_law_2261 : decode cL_law 2261 = .ok (.ifCond .eq 5, 3) := by decide +kernel
theorem dL_law_2264 : decode cL_law 2264 = .ok (.iconst 0, 1) := by decide +kernel
theorem dL_law_2265 : decode cL_law 2265 = .ok (.ireturn, 1) := by decide +kernel
theorem dL_law_2266 : decode cL_law 2266 = .ok (.goto 532, 3) := by decide +kernel
theorem dL_law_2269 : decode cL_law 2269 = .ok (.aload_n 1, 1) := by decide +kernel
theorem dL_law_2270 : decode cL_law 2270 = .ok (.aload_n 0, 1) := by decide +kernel
theorem dL_law_2271 : decode cL_law 2271 = .ok (.iload 4, 2) := by decide +kernel
theorem dL_law_2273 : decode cL_law 2273 = .ok (.iconst 1, 1) := by decide +kernel
theorem dL_law_2274 : decode cL_law 2274 = .ok (.iadd, 1) := by decide +kernel
theorem dL_law_2275 : decode cL_law 2275 = .ok (.iaload, 1) := by decide +kernel
theorem dL_law_2276 : decode cL_law 2276 = .ok (.aload_n 0, 1) := by decide +kernel
theorem dL_law_2277 : decode cL_law 2277 = .ok (.iload 4, 2) := by decide +kernel
theorem dL_law_2279 : decode cL_law 2279 = .ok (.iconst 2, 1) := by decide +kernel
theorem dL_law_2280 : decode cL_law 2280 = .ok (.iadd, 1) := by decide +kernel
theorem dL_law_2281 : decode cL_law 2281 = .ok (.iaload, 1) := by decide +kernel
theorem dL_law_2282 : decode cL_law 2282 = .ok (.aload_n 3, 1) := by decide +kernel
theorem dL_law_2283 : decode cL_law 2283 = .ok (.invokestatic 332, 3) := by decide +kernel
theorem dL_law_2286 : decode cL_law 2286 = .ok (.istore 5, 2) := by decide +kernel
theorem dL_law_2288 : decode cL_law 2288 = .ok (.aload_n 2, 1) := by decide +kernel
theorem dL_law_2289 : decode cL_law 2289 = .ok (.aload_n 0, 1) := by decide +kernel
theorem dL_law_2290 : decode cL_law 2290 = .ok (.iload 4, 2) := by decide +kernel
theorem dL_law_2292 : decode cL_law 2292 = .ok (.iconst 1, 1) := by decide +kernel
theorem dL_law_2293 : decode cL_law 2293 = .ok (.iadd, 1) := by decide +kernel
theorem dL_law_2294 : decode cL_law 2294 = .ok (.iaload, 1) := by decide +kernel
theorem dL_law_2295 : decode cL_law 2295 = .ok (.aload_n 0, 1) := by decide +kernel
theorem dL_law_2296 : decode cL_law 2296 = .ok (.iload 4, 2) := by decide +kernel
theorem dL_law_2298 : decode cL_law 2298 = .ok (.iconst 2, 1) := by decide +kernel
theorem dL_law_2299 : decode cL_law 2299 = .ok (.iadd, 1) := by decide +kernel
theorem dL_law_2300 : decode cL_law 2300 = .ok (.iaload, 1) := by decide +kernel
theorem dL_law_2301 : decode cL_law 2301 = .ok (.invokevirtual 334, 3) := by decide +kernel
theorem dL_law_2304 : decode cL_law 2304 = .ok (.istore 6, 2) := by decide +kernel
theorem dL_law_2306 : decode cL_law 2306 = .ok (.aload_n 2, 1) := by decide +kernel
theorem dL_law_2307 : decode cL_law 2307 = .ok (.invokevirtual 137, 3) := by decide +kernel
theorem dL_law_2310 : decode cL_law 2310 = .ok (.iload 5, 2) := by decide +kernel
theorem dL_law_2312 : decode cL_law 2312 = .ok (.if_icmp .eq 5, 3) := by decide +kernel
theorem dL_law_2315 : decode cL_law 2315 = .ok (.iconst 0, 1) := by decide +kernel
theorem dL_law_2316 : decode cL_law 2316 = .ok (.ireturn, 1) := by decide +kernel
theorem dL_law_2317 : decode cL_law 2317 = .ok (.iload 5, 2) := by decide +kernel
theorem dL_law_2319 : decode cL_law 2319 = .ok (.ifCond .ne 15, 3) := by decide +kernel
theorem dL_law_2322 : decode cL_law 2322 = .ok (.aload_n 3, 1) := by decide +kernel
theorem dL_law_2323 : decode cL_law 2323 = .ok (.iconst 0, 1) := by decide +kernel
theorem dL_law_2324 : decode cL_law 2324 = .ok (.laload, 1) := by decide +kernel
theorem dL_law_2325 : decode cL_law 2325 = .ok (.iload 6, 2) := by decide +kernel
theorem dL_law_2327 : decode cL_law 2327 = .ok (.i2l, 1) := by decide +kernel
theorem dL_law_2328 : decode cL_law 2328 = .ok (.lcmp, 1) := by decide +kernel
theorem dL_law_2329 : decode cL_law 2329 = .ok (.ifCond .eq 5, 3) := by decide +kernel
theorem dL_law_2332 : decode cL_law 2332 = .ok (.iconst 0, 1) := by decide +kernel
theorem dL_law_2333 : decode cL_law 2333 = .ok (.ireturn, 1) := by decide +kernel
theorem dL_law_2334 : decode cL_law 2334 = .ok (.goto 464, 3) := by decide +kernel
theorem dL_law_2337 : decode cL_law 2337 = .ok (.aload_n 1, 1) := by decide +kernel
theorem dL_law_2338 : decode cL_law 2338 = .ok (.aload_n 0, 1) := by decide +kernel
theorem dL_law_2339 : decode cL_law 2339 = .ok (.iload 4, 2) := by decide +kernel
theorem dL_law_2341 : decode cL_law 2341 = .ok (.iconst 1, 1) := by decide +kernel
theorem dL_law_2342 : decode cL_law 2342 = .ok (.iadd, 1) := by decide +kernel
theorem dL_law_2343 : decode cL_law 2343 = .ok (.iaload, 1) := by decide +kernel
theorem dL_law_2344 : decode cL_law 2344 = .ok (.aload_n 0, 1) := by decide +kernel
theorem dL_law_2345 : decode cL_law 2345 = .ok (.iload 4, 2) := by decide +kernel
theorem dL_law_2347 : decode cL_law 2347 = .ok (.iconst 2, 1) := by decide +kernel
theorem dL_law_2348 : decode cL_law 2348 = .ok (.iadd, 1) := by decide +kernel
theorem dL_law_2349 : decode cL_law 2349 = .ok (.iaload, 1) := by decide +kernel
theorem dL_law_2350 : decode cL_law 2350 = .ok (.aload_n 3, 1) := by decide +kernel
theorem dL_law_2351 : decode cL_law 2351 = .ok (.invokestatic 335, 3) := by decide +kernel
theorem dL_law_2354 : decode cL_law 2354 = .ok (.istore 5, 2) := by decide +kernel
theorem dL_law_2356 : decode cL_law 2356 = .ok (.aload_n 2, 1) := by decide +kernel
theorem dL_law_2357 : decode cL_law 2357 = .ok (.aload_n 0, 1) := by decide +kernel
theorem dL_law_2358 : decode cL_law 2358 = .ok (.iload 4, 2) := by decide +kernel
theorem dL_law_2360 : decode cL_law 2360 = .ok (.iconst 1, 1) := by decide +kernel
theorem dL_law_2361 : decode cL_law 2361 = .ok (.iadd, 1) := by decide +kernel
theorem dL_law_2362 : decode cL_law 2362 = .ok (.iaload, 1) := by decide +kernel
theorem dL_law_2363 : decode cL_law 2363 = .ok (.aload_n 0, 1) := by decide +kernel
theorem dL_law_2364 : decode cL_law 2364 = .ok (.iload 4, 2) := by decide +kernel
theorem dL_law_2366 : decode cL_law 2366 = .ok (.iconst 2, 1) := by decide +kernel
theorem dL_law_2367 : decode cL_law 2367 = .ok (.iadd, 1) := by decide +kernel
theorem dL_law_2368 : decode cL_law 2368 = .ok (.iaload, 1) := by decide +kernel
theorem dL_law_2369 : decode cL_law 2369 = .ok (.invokevirtual 337, 3) := by decide +kernel
theorem dL_law_2372 : decode cL_law 2372 = .ok (.istore 6, 2) := by decide +kernel
theorem dL_law_2374 : decode cL_law 2374 = .ok (.aload_n 2, 1) := by decide +kernel
theorem dL_law_2375 : decode cL_law 2375 = .ok (.invokevirtual 137, 3) := by decide +kernel
theorem dL_law_2378 : decode cL_law 2378 = .ok (.iload 5, 2) := by decide +kernel
theorem dL_law_2380 : decode cL_law 2380 = .ok (.if_icmp .eq 5, 3) := by decide +kernel
theorem dL_law_2383 : decode cL_law 2383 = .ok (.iconst 0, 1) := by decide +kernel
theorem dL_law_2384 : decode cL_law 2384 = .ok (.ireturn, 1) := by decide +kernel
theorem dL_law_2385 : decode cL_law 2385 = .ok (.iload 5, 2) := by decide +kernel
theorem dL_law_2387 : decode cL_law 2387 = .ok (.ifCond .ne 15, 3) := by decide +kernel
theorem dL_law_2390 : decode cL_law 2390 = .ok (.aload_n 3, 1) := by decide +kernel
theorem dL_law_2391 : decode cL_law 2391 = .ok (.iconst 0, 1) := by decide +kernel
theorem dL_law_2392 : decode cL_law 2392 = .ok (.laload, 1) := by decide +kernel
theorem dL_law_2393 : decode cL_law 2393 = .ok (.iload 6, 2) := by decide +kernel
theorem dL_law_2395 : decode cL_law 2395 = .ok (.i2l, 1) := by decide +kernel
theorem dL_law_2396 : decode cL_law 2396 = .ok (.lcmp, 1) := by decide +kernel
theorem dL_law_2397 : decode cL_law 2397 = .ok (.ifCond .eq 5, 3) := by decide +kernel
theorem dL_law_2400 : decode cL_law 2400 = .ok (.iconst 0, 1) := by decide +kernel
theorem dL_law_2401 : decode cL_law 2401 = .ok (.ireturn, 1) := by decide +kernel
theorem dL_law_2402 : decode cL_law 2402 = .ok (.goto 396, 3) := by decide +kernel
theorem dL_law_2405 : decode cL_law 2405 = .ok (.aload_n 1, 1) := by decide +kernel
theorem dL_law_2406 : decode cL_law 2406 = .ok (.aload_n 0, 1) := by decide +kernel
theorem dL_law_2407 : decode cL_law 2407 = .ok (.iload 4, 2) := by decide +kernel
theorem dL_law_2409 : decode cL_law 2409 = .ok (.iconst 1, 1) := by decide +kernel
theorem dL_law_2410 : decode cL_law 2410 = .ok (.iadd, 1) := by decide +kernel
theorem dL_law_2411 : decode cL_law 2411 = .ok (.iaload, 1) := by decide +kernel
theorem dL_law_2412 : decode cL_law 2412 = .ok (.aload_n 0, 1) := by decide +kernel
theorem dL_law_2413 : decode cL_law 2413 = .ok (.iload 4, 2) := by decide +kernel
theorem dL_law_2415 : decode cL_law 2415 = .ok (.iconst 2, 1) := by decide +kernel
theorem dL_law_2416 : decode cL_law 2416 = .ok (.iadd, 1) := by decide +kernel
theorem dL_law_2417 : decode cL_law 2417 = .ok (.iaload, 1) := by decide +kernel
theorem dL_law_2418 : decode cL_law 2418 = .ok (.aload_n 3, 1) := by decide +kernel
theorem dL_law_2419 : decode cL_law 2419 = .ok (.invokestatic 338, 3) := by decide +kernel
theorem dL_law_2422 : decode cL_law 2422 = .ok (.istore 5, 2) := by decide +kernel
theorem dL_law_2424 : decode cL_law 2424 = .ok (.aload_n 2, 1) := by decide +kernel
theorem dL_law_2425 : decode cL_law 2425 = .ok (.aload_n 0, 1) := by decide +kernel
theorem dL_law_2426 : decode cL_law 2426 = .ok (.iload 4, 2) := by decide +kernel
theorem dL_law_2428 : decode cL_law 2428 = .ok (.iconst 1, 1) := by decide +kernel
theorem dL_law_2429 : decode cL_law 2429 = .ok (.iadd, 1) := by decide +kernel
theorem dL_law_2430 : decode cL_law 2430 = .ok (.iaload, 1) := by decide +kernel
theorem dL_law_2431 : decode cL_law 2431 = .ok (.aload_n 0, 1) := by decide +kernel
theorem dL_law_2432 : decode cL_law 2432 = .ok (.iload 4, 2) := by decide +kernel
theorem dL_law_2434 : decode cL_law 2434 = .ok (.iconst 2, 1) := by decide +kernel
theorem dL_law_2435 : decode cL_law 2435 = .ok (.iadd, 1) := by decide +kernel
theorem dL_law_2436 : decode cL_law 2436 = .ok (.iaload, 1) := by decide +kernel
theorem dL_law_2437 : decode cL_law 2437 = .ok (.invokevirtual 340, 3) := by decide +kernel
theorem dL_law_2440 : decode cL_law 2440 = .ok (.istore 6, 2) := by decide +kernel
theorem dL_law_2442 : decode cL_law 2442 = .ok (.aload_n 2, 1) := by decide +kernel
theorem dL_law_2443 : decode cL_law 2443 = .ok (.invokevirtual 137, 3) := by decide +kernel
theorem dL_law_2446 : decode cL_law 2446 = .ok (.iload 5, 2) := by decide +kernel
theorem dL_law_2448 : decode cL_law 2448 = .ok (.if_icmp .eq 5, 3) := by decide +kernel
theorem dL_law_2451 : decode cL_law 2451 = .ok (.iconst 0, 1) := by decide +kernel
theorem dL_law_2452 : decode cL_law 2452 = .ok (.ireturn, 1) := by decide +kernel
theorem dL_law_2453 : decode cL_law 2453 = .ok (.iload 5, 2) := by decide +kernel
theorem dL_law_2455 : decode cL_law 2455 = .ok (.ifCond .ne 15, 3) := by decide +kernel
theorem dL_law_2458 : decode cL_law 2458 = .ok (.aload_n 3, 1) := by decide +kernel
theorem dL_law_2459 : decode cL_law 2459 = .ok (.iconst 0, 1) := by decide +kernel
theorem dL_law_2460 : decode cL_law 2460 = .ok (.laload, 1) := by decide +kernel
theorem dL_law_2461 : decode cL_law 2461 = .ok (.iload 6, 2) := by decide +kernel
theorem dL_law_2463 : decode cL_law 2463 = .ok (.i2l, 1) := by decide +kernel
theorem dL_law_2464 : decode cL_law 2464 = .ok (.lcmp, 1) := by decide +kernel
theorem dL_law_2465 : decode cL_law 2465 = .ok (.ifCond .eq 5, 3) := by decide +kernel
theorem dL_law_2468 : decode cL_law 2468 = .ok (.iconst 0, 1) := by decide +kernel
theorem dL_law_2469 : decode cL_law 2469 = .ok (.ireturn, 1) := by decide +kernel
theorem dL_law_2470 : decode cL_law 2470 = .ok (.goto 328, 3) := by decide +kernel
theorem dL_law_2473 : decode cL_law 2473 = .ok (.aload_n 1, 1) := by decide +kernel
theorem dL_law_2474 : decode cL_law 2474 = .ok (.aload_n 0, 1) := by decide +kernel
theorem dL_law_2475 : decode cL_law 2475 = .ok (.iload 4, 2) := by decide +kernel
theorem dL_law_2477 : decode cL_law 2477 = .ok (.iconst 1, 1) := by decide +kernel
theorem dL_law_2478 : decode cL_law 2478 = .ok (.iadd, 1) := by decide +kernel
theorem dL_law_2479 : decode cL_law 2479 = .ok (.iaload, 1) := by decide +kernel
theorem dL_law_2480 : decode cL_law 2480 = .ok (.aload_n 3, 1) := by decide +kernel
theorem dL_law_2481 : decode cL_law 2481 = .ok (.invokestatic 341, 3) := by decide +kernel
theorem dL_law_2484 : decode cL_law 2484 = .ok (.istore 5, 2) := by decide +kernel
theorem dL_law_2486 : decode cL_law 2486 = .ok (.aload_n 2, 1) := by decide +kernel
theorem dL_law_2487 : decode cL_law 2487 = .ok (.aload_n 0, 1) := by decide +kernel
theorem dL_law_2488 : decode cL_law 2488 = .ok (.iload 4, 2) := by decide +kernel
theorem dL_law_2490 : decode cL_law 2490 = .ok (.iconst 1, 1) := by decide +kernel
theorem dL_law_2491 : decode cL_law 2491 = .ok (.iadd, 1) := by decide +kernel
theorem dL_law_2492 : decode cL_law 2492 = .ok (.iaload, 1) := by decide +kernel
theorem dL_law_2493 : decode cL_law 2493 = .ok (.invokevirtual 343, 3) := by decide +kernel
theorem dL_law_2496 : decode cL_law 2496 = .ok (.istore 6, 2) := by decide +kernel
theorem dL_law_2498 : decode cL_law 2498 = .ok (.aload_n 2, 1) := by decide +kernel
theorem dL_law_2499 : decode cL_law 2499 = .ok (.invokevirtual 137, 3) := by decide +kernel
theorem dL_law_2502 : decode cL_law 2502 = .ok (.iload 5, 2) := by decide +kernel
theorem dL_law_2504 : decode cL_law 2504 = .ok (.if_icmp .eq 5, 3) := by decide +kernel
theorem dL_law_2507 : decode cL_law 2507 = .ok (.iconst 0, 1) := by decide +kernel
theorem dL_law_2508 : decode cL_law 2508 = .ok (.ireturn, 1) := by decide +kernel
theorem dL_law_2509 : decode cL_law 2509 = .ok (.iload 5, 2) := by decide +kernel
theorem dL_law_2511 : decode cL_law 2511 = .ok (.ifCond .ne 15, 3) := by decide +kernel
theorem dL_law_2514 : decode cL_law 2514 = .ok (.aload_n 3, 1) := by decide +kernel
theorem dL_law_2515 : decode cL_law 2515 = .ok (.iconst 0, 1) := by decide +kernel
theorem dL_law_2516 : decode cL_law 2516 = .ok (.laload, 1) := by decide +kernel
theorem dL_law_2517 : decode cL_law 2517 = .ok (.iload 6, 2) := by decide +kernel
theorem dL_law_2519 : decode cL_law 2519 = .ok (.i2l, 1) := by decide +kernel
theorem dL_law_2520 : decode cL_law 2520 = .ok (.lcmp, 1) := by decide +kernel
theorem dL_law_2521 : decode cL_law 2521 = .ok (.ifCond .eq 5, 3) := by decide +kernel
theorem dL_law_2524 : decode cL_law 2524 = .ok (.iconst 0, 1) := by decide +kernel
theorem dL_law_2525 : decode cL_law 2525 = .ok (.ireturn, 1) := by decide +kernel
theorem dL_law_2526 : decode cL_law 2526 = .ok (.goto 272, 3) := by decide +kernel
theorem dL_law_2529 : decode cL_law 2529 = .ok (.aload_n 1, 1) := by decide +kernel
theorem dL_law_2530 : decode cL_law 2530 = .ok (.aload_n 3, 1) := by decide +kernel
theorem dL_law_2531 : decode cL_law 2531 = .ok (.invokestatic 344, 3) := by decide +kernel
theorem dL_law_2534 : decode cL_law 2534 = .ok (.istore 5, 2) := by decide +kernel
theorem dL_law_2536 : decode cL_law 2536 = .ok (.aload_n 2, 1) := by decide +kernel
theorem dL_law_2537 : decode cL_law 2537 = .ok (.invokevirtual 346, 3) := by decide +kernel
theorem dL_law_2540 : decode cL_law 2540 = .ok (.istore 6, 2) := by decide +kernel
theorem dL_law_2542 : decode cL_law 2542 = .ok (.aload_n 2, 1) := by decide +kernel
theorem dL_law_2543 : decode cL_law 2543 = .ok (.invokevirtual 137, 3) := by decide +kernel
theorem dL_law_2546 : decode cL_law 2546 = .ok (.iload 5, 2) := by decide +kernel
theorem dL_law_2548 : decode cL_law 2548 = .ok (.if_icmp .eq 5, 3) := by decide +kernel
theorem dL_law_2551 : decode cL_law 2551 = .ok (.iconst 0, 1) := by decide +kernel
theorem dL_law_2552 : decode cL_law 2552 = .ok (.ireturn, 1) := by decide +kernel
theorem dL_law_2553 : decode cL_law 2553 = .ok (.iload 5, 2) := by decide +kernel
theorem dL_law_2555 : decode cL_law 2555 = .ok (.ifCond .ne 15, 3) := by decide +kernel
theorem dL_law_2558 : decode cL_law 2558 = .ok (.aload_n 3, 1) := by decide +kernel
theorem dL_law_2559 : decode cL_law 2559 = .ok (.iconst 0, 1) := by decide +kernel
theorem dL_law_2560 : decode cL_law 2560 = .ok (.laload, 1) := by decide +kernel
theorem dL_law_2561 : decode cL_law 2561 = .ok (.iload 6, 2) := by decide +kernel
theorem dL_law_2563 : decode cL_law 2563 = .ok (.i2l, 1) := by decide +kernel
theorem dL_law_2564 : decode cL_law 2564 = .ok (.lcmp, 1) := by decide +kernel
theorem dL_law_2565 : decode cL_law 2565 = .ok (.ifCond .eq 5, 3) := by decide +kernel
theorem dL_law_2568 : decode cL_law 2568 = .ok (.iconst 0, 1) := by decide +kernel
theorem dL_law_2569 : decode cL_law 2569 = .ok (.ireturn, 1) := by decide +kernel
theorem dL_law_2570 : decode cL_law 2570 = .ok (.goto 228, 3) := by decide +kernel
theorem dL_law_2573 : decode cL_law 2573 = .ok (.aload_n 1, 1) := by decide +kernel
theorem dL_law_2574 : decode cL_law 2574 = .ok (.aload_n 3, 1) := by decide +kernel
theorem dL_law_2575 : decode cL_law 2575 = .ok (.invokestatic 347, 3) := by decide +kernel
theorem dL_law_2578 : decode cL_law 2578 = .ok (.istore 5, 2) := by decide +kernel
theorem dL_law_2580 : decode cL_law 2580 = .ok (.aload_n 2, 1) := by decide +kernel
theorem dL_law_2581 : decode cL_law 2581 = .ok (.invokevirtual 349, 3) := by decide +kernel
theorem dL_law_2584 : decode cL_law 2584 = .ok (.istore 6, 2) := by decide +kernel
theorem dL_law_2586 : decode cL_law 2586 = .ok (.aload_n 2, 1) := by decide +kernel
theorem dL_law_2587 : decode cL_law 2587 = .ok (.invokevirtual 137, 3) := by decide +kernel
theorem dL_law_2590 : decode cL_law 2590 = .ok (.iload 5, 2) := by decide +kernel
theorem dL_law_2592 : decode cL_law 2592 = .ok (.if_icmp .eq 5, 3) := by decide +kernel
theorem dL_law_2595 : decode cL_law 2595 = .ok (.iconst 0, 1) := by decide +kernel
theorem dL_law_2596 : decode cL_law 2596 = .ok (.ireturn, 1) := by decide +kernel
theorem dL_law_2597 : decode cL_law 2597 = .ok (.iload 5, 2) := by decide +kernel
theorem dL_law_2599 : decode cL_law 2599 = .ok (.ifCond .ne 15, 3) := by decide +kernel
theorem dL_law_2602 : decode cL_law 2602 = .ok (.aload_n 3, 1) := by decide +kernel
theorem dL_law_2603 : decode cL_law 2603 = .ok (.iconst 0, 1) := by decide +kernel
theorem dL_law_2604 : decode cL_law 2604 = .ok (.laload, 1) := by decide +kernel
theorem dL_law_2605 : decode cL_law 2605 = .ok (.iload 6, 2) := by decide +kernel
theorem dL_law_2607 : decode cL_law 2607 = .ok (.i2l, 1) := by decide +kernel
theorem dL_law_2608 : decode cL_law 2608 = .ok (.lcmp, 1) := by decide +kernel
theorem dL_law_2609 : decode cL_law 2609 = .ok (.ifCond .eq 5, 3) := by decide +kernel
theorem dL_law_2612 : decode cL_law 2612 = .ok (.iconst 0, 1) := by decide +kernel
theorem dL_law_2613 : decode cL_law 2613 = .ok (.ireturn, 1) := by decide +kernel
theorem dL_law_2614 : decode cL_law 2614 = .ok (.goto 184, 3) := by decide +kernel
theorem dL_law_2617 : decode cL_law 2617 = .ok (.aload_n 1, 1) := by decide +kernel
theorem dL_law_2618 : decode cL_law 2618 = .ok (.aload_n 0, 1) := by decide +kernel
theorem dL_law_2619 : decode cL_law 2619 = .ok (.iload 4, 2) := by decide +kernel
theorem dL_law_2621 : decode cL_law 2621 = .ok (.iconst 1, 1) := by decide +kernel
theorem dL_law_2622 : decode cL_law 2622 = .ok (.iadd, 1) := by decide +kernel
theorem dL_law_2623 : decode cL_law 2623 = .ok (.iaload, 1) := by decide +kernel
theorem dL_law_2624 : decode cL_law 2624 = .ok (.aload_n 3, 1) := by decide +kernel
theorem dL_law_2625 : decode cL_law 2625 = .ok (.invokestatic 350, 3) := by decide +kernel
theorem dL_law_2628 : decode cL_law 2628 = .ok (.istore 5, 2) := by decide +kernel
theorem dL_law_2630 : decode cL_law 2630 = .ok (.aload_n 2, 1) := by decide +kernel
theorem dL_law_2631 : decode cL_law 2631 = .ok (.aload_n 0, 1) := by decide +kernel
theorem dL_law_2632 : decode cL_law 2632 = .ok (.iload 4, 2) := by decide +kernel
theorem dL_law_2634 : decode cL_law 2634 = .ok (.iconst 1, 1) := by decide +kernel
theorem dL_law_2635 : decode cL_law 2635 = .ok (.iadd, 1) := by decide +kernel
theorem dL_law_2636 : decode cL_law 2636 = .ok (.iaload, 1) := by decide +kernel
theorem dL_law_2637 : decode cL_law 2637 = .ok (.invokevirtual 352, 3) := by decide +kernel
theorem dL_law_2640 : decode cL_law 2640 = .ok (.istore 6, 2) := by decide +kernel
theorem dL_law_2642 : decode cL_law 2642 = .ok (.aload_n 2, 1) := by decide +kernel
theorem dL_law_2643 : decode cL_law 2643 = .ok (.invokevirtual 137, 3) := by decide +kernel
theorem dL_law_2646 : decode cL_law 2646 = .ok (.iload 5, 2) := by decide +kernel
theorem dL_law_2648 : decode cL_law 2648 = .ok (.if_icmp .eq 5, 3) := by decide +kernel
theorem dL_law_2651 : decode cL_law 2651 = .ok (.iconst 0, 1) := by decide +kernel
theorem dL_law_2652 : decode cL_law 2652 = .ok (.ireturn, 1) := by decide +kernel
theorem dL_law_2653 : decode cL_law 2653 = .ok (.iload 5, 2) := by decide +kernel
theorem dL_law_2655 : decode cL_law 2655 = .ok (.ifCond .ne 15, 3) := by decide +kernel
theorem dL_law_2658 : decode cL_law 2658 = .ok (.aload_n 3, 1) := by decide +kernel
theorem dL_law_2659 : decode cL_law 2659 = .ok (.iconst 0, 1) := by decide +kernel
theorem dL_law_2660 : decode cL_law 2660 = .ok (.laload, 1) := by decide +kernel
theorem dL_law_2661 : decode cL_law 2661 = .ok (.iload 6, 2) := by decide +kernel
theorem dL_law_2663 : decode cL_law 2663 = .ok (.i2l, 1) := by decide +kernel
theorem dL_law_2664 : decode cL_law 2664 = .ok (.lcmp, 1) := by decide +kernel
theorem dL_law_2665 : decode cL_law 2665 = .ok (.ifCond .eq 5, 3) := by decide +kernel
theorem dL_law_2668 : decode cL_law 2668 = .ok (.iconst 0, 1) := by decide +kernel
theorem dL_law_2669 : decode cL_law 2669 = .ok (.ireturn, 1) := by decide +kernel
theorem dL_law_2670 : decode cL_law 2670 = .ok (.goto 128, 3) := by decide +kernel
theorem dL_law_2673 : decode cL_law 2673 = .ok (.aload_n 1, 1) := by decide +kernel
theorem dL_law_2674 : decode cL_law 2674 = .ok (.aload_n 0, 1) := by decide +kernel
theorem dL_law_2675 : decode cL_law 2675 = .ok (.iload 4, 2) := by decide +kernel
theorem dL_law_2677 : decode cL_law 2677 = .ok (.iconst 1, 1) := by decide +kernel
theorem dL_law_2678 : decode cL_law 2678 = .ok (.iadd, 1) := by decide +kernel
theorem dL_law_2679 : decode cL_law 2679 = .ok (.iaload, 1) := by decide +kernel
theorem dL_law_2680 : decode cL_law 2680 = .ok (.aload_n 3, 1) := by decide +kernel
theorem dL_law_2681 : decode cL_law 2681 = .ok (.invokestatic 353, 3) := by decide +kernel
theorem dL_law_2684 : decode cL_law 2684 = .ok (.istore 5, 2) := by decide +kernel
theorem dL_law_2686 : decode cL_law 2686 = .ok (.aload_n 2, 1) := by decide +kernel
theorem dL_law_2687 : decode cL_law 2687 = .ok (.aload_n 0, 1) := by decide +kernel
theorem dL_law_2688 : decode cL_law 2688 = .ok (.iload 4, 2) := by decide +kernel
theorem dL_law_2690 : decode cL_law 2690 = .ok (.iconst 1, 1) := by decide +kernel
theorem dL_law_2691 : decode cL_law 2691 = .ok (.iadd, 1) := by decide +kernel
theorem dL_law_2692 : decode cL_law 2692 = .ok (.iaload, 1) := by decide +kernel
theorem dL_law_2693 : decode cL_law 2693 = .ok (.invokevirtual 355, 3) := by decide +kernel
theorem dL_law_2696 : decode cL_law 2696 = .ok (.istore 6, 2) := by decide +kernel
theorem dL_law_2698 : decode cL_law 2698 = .ok (.aload_n 2, 1) := by decide +kernel
theorem dL_law_2699 : decode cL_law 2699 = .ok (.invokevirtual 137, 3) := by decide +kernel
theorem dL_law_2702 : decode cL_law 2702 = .ok (.iload 5, 2) := by decide +kernel
theorem dL_law_2704 : decode cL_law 2704 = .ok (.if_icmp .eq 5, 3) := by decide +kernel
theorem dL_law_2707 : decode cL_law 2707 = .ok (.iconst 0, 1) := by decide +kernel
theorem dL_law_2708 : decode cL_law 2708 = .ok (.ireturn, 1) := by decide +kernel
theorem dL_law_2709 : decode cL_law 2709 = .ok (.iload 5, 2) := by decide +kernel
theorem dL_law_2711 : decode cL_law 2711 = .ok (.ifCond .ne 15, 3) := by decide +kernel
theorem dL_law_2714 : decode cL_law 2714 = .ok (.aload_n 3, 1) := by decide +kernel
theorem dL_law_2715 : decode cL_law 2715 = .ok (.iconst 0, 1) := by decide +kernel
theorem dL_law_2716 : decode cL_law 2716 = .ok (.laload, 1) := by decide +kernel
theorem dL_law_2717 : decode cL_law 2717 = .ok (.iload 6, 2) := by decide +kernel
theorem dL_law_2719 : decode cL_law 2719 = .ok (.i2l, 1) := by decide +kernel
theorem dL_law_2720 : decode cL_law 2720 = .ok (.lcmp, 1) := by decide +kernel
theorem dL_law_2721 : decode cL_law 2721 = .ok (.ifCond .eq 5, 3) := by decide +kernel
theorem dL_law_2724 : decode cL_law 2724 = .ok (.iconst 0, 1) := by decide +kernel
theorem dL_law_2725 : decode cL_law 2725 = .ok (.ireturn, 1) := by decide +kernel
theorem dL_law_2726 : decode cL_law 2726 = .ok (.goto 72, 3) := by decide +kernel
theorem dL_law_2729 : decode cL_law 2729 = .ok (.aload_n 1, 1) := by decide +kernel
theorem dL_law_2730 : decode cL_law 2730 = .ok (.invokevirtual 356, 3) := by decide +kernel
theorem dL_law_2733 : decode cL_law 2733 = .ok (.aload_n 2, 1) := by decide +kernel
theorem dL_law_2734 : decode cL_law 2734 = .ok (.invokevirtual 359, 3) := by decide +kernel
theorem dL_law_2737 : decode cL_law 2737 = .ok (.if_icmp .eq 61, 3) := by decide +kernel
theorem dL_law_2740 : decode cL_law 2740 = .ok (.iconst 0, 1) := by decide +kernel
theorem dL_law_2741 : decode cL_law 2741 = .ok (.ireturn, 1) := by decide +kernel
theorem dL_law_2742 : decode cL_law 2742 = .ok (.aload_n 1, 1) := by decide +kernel
theorem dL_law_2743 : decode cL_law 2743 = .ok (.aload_n 0, 1) := by decide +kernel
theorem dL_law_2744 : decode cL_law 2744 = .ok (.iload 4, 2) := by decide +kernel
theorem dL_law_2746 : decode cL_law 2746 = .ok (.iconst 1, 1) := by decide +kernel
theorem dL_law_2747 : decode cL_law 2747 = .ok (.iadd, 1) := by decide +kernel
theorem dL_law_2748 : decode cL_law 2748 = .ok (.iaload, 1) := by decide +kernel
theorem dL_law_2749 : decode cL_law 2749 = .ok (.aload_n 3, 1) := by decide +kernel
theorem dL_law_2750 : decode cL_law 2750 = .ok (.invokestatic 360, 3) := by decide +kernel
theorem dL_law_2753 : decode cL_law 2753 = .ok (.istore 5, 2) := by decide +kernel
theorem dL_law_2755 : decode cL_law 2755 = .ok (.aload_n 2, 1) := by decide +kernel
theorem dL_law_2756 : decode cL_law 2756 = .ok (.aload_n 0, 1) := by decide +kernel
theorem dL_law_2757 : decode cL_law 2757 = .ok (.iload 4, 2) := by decide +kernel
theorem dL_law_2759 : decode cL_law 2759 = .ok (.iconst 1, 1) := by decide +kernel
theorem dL_law_2760 : decode cL_law 2760 = .ok (.iadd, 1) := by decide +kernel
theorem dL_law_2761 : decode cL_law 2761 = .ok (.iaload, 1) := by decide +kernel
theorem dL_law_2762 : decode cL_law 2762 = .ok (.invokevirtual 362, 3) := by decide +kernel
theorem dL_law_2765 : decode cL_law 2765 = .ok (.istore 6, 2) := by decide +kernel
theorem dL_law_2767 : decode cL_law 2767 = .ok (.aload_n 2, 1) := by decide +kernel
theorem dL_law_2768 : decode cL_law 2768 = .ok (.invokevirtual 137, 3) := by decide +kernel
theorem dL_law_2771 : decode cL_law 2771 = .ok (.iload 5, 2) := by decide +kernel
theorem dL_law_2773 : decode cL_law 2773 = .ok (.if_icmp .eq 5, 3) := by decide +kernel
theorem dL_law_2776 : decode cL_law 2776 = .ok (.iconst 0, 1) := by decide +kernel
theorem dL_law_2777 : decode cL_law 2777 = .ok (.ireturn, 1) := by decide +kernel
theorem dL_law_2778 : decode cL_law 2778 = .ok (.iload 5, 2) := by decide +kernel
theorem dL_law_2780 : decode cL_law 2780 = .ok (.ifCond .ne 15, 3) := by decide +kernel
theorem dL_law_2783 : decode cL_law 2783 = .ok (.aload_n 3, 1) := by decide +kernel
theorem dL_law_2784 : decode cL_law 2784 = .ok (.iconst 0, 1) := by decide +kernel
theorem dL_law_2785 : decode cL_law 2785 = .ok (.laload, 1) := by decide +kernel
theorem dL_law_2786 : decode cL_law 2786 = .ok (.iload 6, 2) := by decide +kernel
theorem dL_law_2788 : decode cL_law 2788 = .ok (.i2l, 1) := by decide +kernel
theorem dL_law_2789 : decode cL_law 2789 = .ok (.lcmp, 1) := by decide +kernel
theorem dL_law_2790 : decode cL_law 2790 = .ok (.ifCond .eq 5, 3) := by decide +kernel
theorem dL_law_2793 : decode cL_law 2793 = .ok (.iconst 0, 1) := by decide +kernel
theorem dL_law_2794 : decode cL_law 2794 = .ok (.ireturn, 1) := by decide +kernel
theorem dL_law_2795 : decode cL_law 2795 = .ok (.goto 3, 3) := by decide +kernel
theorem dL_law_2798 : decode cL_law 2798 = .ok (.iinc 4 6, 3) := by decide +kernel
theorem dL_law_2801 : decode cL_law 2801 = .ok (.goto (-2778), 3) := by decide +kernel
theorem dL_law_2804 : decode cL_law 2804 = .ok (.iconst 1, 1) := by decide +kernel
theorem dL_law_2805 : decode cL_law 2805 = .ok (.ireturn, 1) := by decide +kernel
