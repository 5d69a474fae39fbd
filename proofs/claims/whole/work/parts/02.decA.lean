theorem dX0_init_0 : decode cX0_init 0 = .ok (.aload_n 0, 1) := by decide +kernel
theorem dX0_init_1 : decode cX0_init 1 = .ok (.invokespecial 3, 3) := by decide +kernel
theorem dX0_init_4 : decode cX0_init 4 = .ok (.return_, 1) := by decide +kernel
theorem dX0_fallCalm_0 : decode cX0_fallCalm 0 = .ok (.aload_n 0, 1) := by decide +kernel
theorem dX0_fallCalm_1 : decode cX0_fallCalm 1 = .ok (.iconst 0, 1) := by decide +kernel
theorem dX0_fallCalm_2 : decode cX0_fallCalm 2 = .ok (.putfield 9, 3) := by decide +kernel
theorem dX0_fallCalm_5 : decode cX0_fallCalm 5 = .ok (.aload_n 0, 1) := by decide +kernel
theorem dX0_fallCalm_6 : decode cX0_fallCalm 6 = .ok (.iconst 0, 1) := by decide +kernel
theorem dX0_fallCalm_7 : decode cX0_fallCalm 7 = .ok (.putfield 15, 3) := by decide +kernel
theorem dX0_fallCalm_10 : decode cX0_fallCalm 10 = .ok (.return_, 1) := by decide +kernel
theorem dX0_drawBy_0 : decode cX0_drawBy 0 = .ok (.aload_n 0, 1) := by decide +kernel
theorem dX0_drawBy_1 : decode cX0_drawBy 1 = .ok (.iload_n 2, 1) := by decide +kernel
theorem dX0_drawBy_2 : decode cX0_drawBy 2 = .ok (.putfield 18, 3) := by decide +kernel
theorem dX0_drawBy_5 : decode cX0_drawBy 5 = .ok (.aload_n 0, 1) := by decide +kernel
theorem dX0_drawBy_6 : decode cX0_drawBy 6 = .ok (.aload_n 0, 1) := by decide +kernel
theorem dX0_drawBy_7 : decode cX0_drawBy 7 = .ok (.getfield 9, 3) := by decide +kernel
theorem dX0_drawBy_10 : decode cX0_drawBy 10 = .ok (.putfield 21, 3) := by decide +kernel
theorem dX0_drawBy_13 : decode cX0_drawBy 13 = .ok (.aload_n 0, 1) := by decide +kernel
theorem dX0_drawBy_14 : decode cX0_drawBy 14 = .ok (.aload_n 0, 1) := by decide +kernel
theorem dX0_drawBy_15 : decode cX0_drawBy 15 = .ok (.getfield 15, 3) := by decide +kernel
theorem dX0_drawBy_18 : decode cX0_drawBy 18 = .ok (.putfield 24, 3) := by decide +kernel
theorem dX0_drawBy_21 : decode cX0_drawBy 21 = .ok (.aload_n 0, 1) := by decide +kernel
theorem dX0_drawBy_22 : decode cX0_drawBy 22 = .ok (.aload_n 1, 1) := by decide +kernel
theorem dX0_drawBy_23 : decode cX0_drawBy 23 = .ok (.bipush 9, 2) := by decide +kernel
theorem dX0_drawBy_25 : decode cX0_drawBy 25 = .ok (.invokevirtual 27, 3) := by decide +kernel
theorem dX0_drawBy_28 : decode cX0_drawBy 28 = .ok (.iconst 4, 1) := by decide +kernel
theorem dX0_drawBy_29 : decode cX0_drawBy 29 = .ok (.isub, 1) := by decide +kernel
theorem dX0_drawBy_30 : decode cX0_drawBy 30 = .ok (.putfield 9, 3) := by decide +kernel
theorem dX0_drawBy_33 : decode cX0_drawBy 33 = .ok (.aload_n 0, 1) := by decide +kernel
theorem dX0_drawBy_34 : decode cX0_drawBy 34 = .ok (.aload_n 1, 1) := by decide +kernel
theorem dX0_drawBy_35 : decode cX0_drawBy 35 = .ok (.bipush 9, 2) := by decide +kernel
theorem dX0_drawBy_37 : decode cX0_drawBy 37 = .ok (.invokevirtual 27, 3) := by decide +kernel
theorem dX0_drawBy_40 : decode cX0_drawBy 40 = .ok (.iconst 4, 1) := by decide +kernel
theorem dX0_drawBy_41 : decode cX0_drawBy 41 = .ok (.isub, 1) := by decide +kernel
theorem dX0_drawBy_42 : decode cX0_drawBy 42 = .ok (.putfield 15, 3) := by decide +kernel
theorem dX0_drawBy_45 : decode cX0_drawBy 45 = .ok (.return_, 1) := by decide +kernel
theorem dX1_init_0 : decode cX1_init 0 = .ok (.aload_n 0, 1) := by decide +kernel
theorem dX1_init_1 : decode cX1_init 1 = .ok (.invokespecial 1, 3) := by decide +kernel
theorem dX1_init_4 : decode cX1_init 4 = .ok (.return_, 1) := by decide +kernel
theorem dX1_eastward_0 : decode cX1_eastward 0 = .ok (.aload_n 1, 1) := by decide +kernel
theorem dX1_eastward_1 : decode cX1_eastward 1 = .ok (.getfield 7, 3) := by decide +kernel
theorem dX1_eastward_4 : decode cX1_eastward 4 = .ok (.ireturn, 1) := by decide +kernel
theorem dX1_northward_0 : decode cX1_northward 0 = .ok (.aload_n 1, 1) := by decide +kernel
theorem dX1_northward_1 : decode cX1_northward 1 = .ok (.getfield 13, 3) := by decide +kernel
theorem dX1_northward_4 : decode cX1_northward 4 = .ok (.ireturn, 1) := by decide +kernel
theorem dX2_init_0 : decode cX2_init 0 = .ok (.aload_n 0, 1) := by decide +kernel
theorem dX2_init_1 : decode cX2_init 1 = .ok (.invokespecial 1, 3) := by decide +kernel
theorem dX2_init_4 : decode cX2_init 4 = .ok (.return_, 1) := by decide +kernel
theorem dX2_eastward_0 : decode cX2_eastward 0 = .ok (.aload_n 0, 1) := by decide +kernel
theorem dX2_eastward_1 : decode cX2_eastward 1 = .ok (.aload_n 1, 1) := by decide +kernel
theorem dX2_eastward_2 : decode cX2_eastward 2 = .ok (.iload_n 2, 1) := by decide +kernel
theorem dX2_eastward_3 : decode cX2_eastward 3 = .ok (.invokespecial 7, 3) := by decide +kernel
theorem dX2_eastward_6 : decode cX2_eastward 6 = .ok (.iload_n 2, 1) := by decide +kernel
theorem dX2_eastward_7 : decode cX2_eastward 7 = .ok (.aload_n 1, 1) := by decide +kernel
theorem dX2_eastward_8 : decode cX2_eastward 8 = .ok (.getfield 11, 3) := by decide +kernel
theorem dX2_eastward_11 : decode cX2_eastward 11 = .ok (.invokestatic 17, 3) := by decide +kernel
theorem dX2_eastward_14 : decode cX2_eastward 14 = .ok (.imul, 1) := by decide +kernel
theorem dX2_eastward_15 : decode cX2_eastward 15 = .ok (.iadd, 1) := by decide +kernel
theorem dX2_eastward_16 : decode cX2_eastward 16 = .ok (.ireturn, 1) := by decide +kernel
theorem dX2_sign_0 : decode cX2_sign 0 = .ok (.iload_n 0, 1) := by decide +kernel
theorem dX2_sign_1 : decode cX2_sign 1 = .ok (.ifCond .le 7, 3) := by decide +kernel
theorem dX2_sign_4 : decode cX2_sign 4 = .ok (.iconst 1, 1) := by decide +kernel
theorem dX2_sign_5 : decode cX2_sign 5 = .ok (.goto 12, 3) := by decide +kernel
theorem dX2_sign_8 : decode cX2_sign 8 = .ok (.iload_n 0, 1) := by decide +kernel
theorem dX2_sign_9 : decode cX2_sign 9 = .ok (.ifCond .ge 7, 3) := by decide +kernel
theorem dX2_sign_12 : decode cX2_sign 12 = .ok (.iconst (-1), 1) := by decide +kernel
theorem dX2_sign_13 : decode cX2_sign 13 = .ok (.goto 4, 3) := by decide +kernel
theorem dX2_sign_16 : decode cX2_sign 16 = .ok (.iconst 0, 1) := by decide +kernel
theorem dX2_sign_17 : decode cX2_sign 17 = .ok (.ireturn, 1) := by decide +kernel
theorem dX3_init_0 : decode cX3_init 0 = .ok (.aload_n 0, 1) := by decide +kernel
theorem dX3_init_1 : decode cX3_init 1 = .ok (.invokespecial 1, 3) := by decide +kernel
theorem dX3_init_4 : decode cX3_init 4 = .ok (.return_, 1) := by decide +kernel
theorem dX3_eastward_0 : decode cX3_eastward 0 = .ok (.aload_n 0, 1) := by decide +kernel
theorem dX3_eastward_1 : decode cX3_eastward 1 = .ok (.aload_n 1, 1) := by decide +kernel
theorem dX3_eastward_2 : decode cX3_eastward 2 = .ok (.iload_n 2, 1) := by decide +kernel
theorem dX3_eastward_3 : decode cX3_eastward 3 = .ok (.invokespecial 7, 3) := by decide +kernel
theorem dX3_eastward_6 : decode cX3_eastward 6 = .ok (.iconst 2, 1) := by decide +kernel
theorem dX3_eastward_7 : decode cX3_eastward 7 = .ok (.idiv, 1) := by decide +kernel
theorem dX3_eastward_8 : decode cX3_eastward 8 = .ok (.ireturn, 1) := by decide +kernel
theorem dX3_northward_0 : decode cX3_northward 0 = .ok (.aload_n 0, 1) := by decide +kernel
theorem dX3_northward_1 : decode cX3_northward 1 = .ok (.aload_n 1, 1) := by decide +kernel
theorem dX3_northward_2 : decode cX3_northward 2 = .ok (.iload_n 2, 1) := by decide +kernel
theorem dX3_northward_3 : decode cX3_northward 3 = .ok (.invokespecial 11, 3) := by decide +kernel
theorem dX3_northward_6 : decode cX3_northward 6 = .ok (.iconst 2, 1) := by decide +kernel
theorem dX3_northward_7 : decode cX3_northward 7 = .ok (.idiv, 1) := by decide +kernel
theorem dX3_northward_8 : decode cX3_northward 8 = .ok (.ireturn, 1) := by decide +kernel
theorem dX4_init_0 : decode cX4_init 0 = .ok (.aload_n 0, 1) := by decide +kernel
theorem dX4_init_1 : decode cX4_init 1 = .ok (.invokespecial 3, 3) := by decide +kernel
theorem dX4_init_4 : decode cX4_init 4 = .ok (.aload_n 0, 1) := by decide +kernel
theorem dX4_init_5 : decode cX4_init 5 = .ok (.bipush 7, 2) := by decide +kernel
theorem dX4_init_7 : decode cX4_init 7 = .ok (.newarray .int, 2) := by decide +kernel
theorem dX4_init_9 : decode cX4_init 9 = .ok (.putfield 9, 3) := by decide +kernel
theorem dX4_init_12 : decode cX4_init 12 = .ok (.aload_n 0, 1) := by decide +kernel
theorem dX4_init_13 : decode cX4_init 13 = .ok (.bipush 7, 2) := by decide +kernel
theorem dX4_init_15 : decode cX4_init 15 = .ok (.newarray .int, 2) := by decide +kernel
theorem dX4_init_17 : decode cX4_init 17 = .ok (.putfield 15, 3) := by decide +kernel
theorem dX4_init_20 : decode cX4_init 20 = .ok (.aload_n 0, 1) := by decide +kernel
theorem dX4_init_21 : decode cX4_init 21 = .ok (.bipush 6, 2) := by decide +kernel
theorem dX4_init_23 : decode cX4_init 23 = .ok (.anewarray 18, 3) := by decide +kernel
theorem dX4_init_26 : decode cX4_init 26 = .ok (.putfield 20, 3) := by decide +kernel
theorem dX4_init_29 : decode cX4_init 29 = .ok (.aload_n 0, 1) := by decide +kernel
theorem dX4_init_30 : decode cX4_init 30 = .ok (.bipush 10, 2) := by decide +kernel
theorem dX4_init_32 : decode cX4_init 32 = .ok (.putfield 24, 3) := by decide +kernel
theorem dX4_init_35 : decode cX4_init 35 = .ok (.aload_n 0, 1) := by decide +kernel
theorem dX4_init_36 : decode cX4_init 36 = .ok (.bipush 30, 2) := by decide +kernel
theorem dX4_init_38 : decode cX4_init 38 = .ok (.putfield 28, 3) := by decide +kernel
theorem dX4_init_41 : decode cX4_init 41 = .ok (.iconst 0, 1) := by decide +kernel
theorem dX4_init_42 : decode cX4_init 42 = .ok (.istore_n 1, 1) := by decide +kernel
theorem dX4_init_43 : decode cX4_init 43 = .ok (.iload_n 1, 1) := by decide +kernel
theorem dX4_init_44 : decode cX4_init 44 = .ok (.bipush 6, 2) := by decide +kernel
theorem dX4_init_46 : decode cX4_init 46 = .ok (.if_icmp .ge 22, 3) := by decide +kernel
theorem dX4_init_49 : decode cX4_init 49 = .ok (.aload_n 0, 1) := by decide +kernel
theorem dX4_init_50 : decode cX4_init 50 = .ok (.getfield 20, 3) := by decide +kernel
theorem dX4_init_53 : decode cX4_init 53 = .ok (.iload_n 1, 1) := by decide +kernel
theorem dX4_init_54 : decode cX4_init 54 = .ok (.new 18, 3) := by decide +kernel
theorem dX4_init_57 : decode cX4_init 57 = .ok (.dup, 1) := by decide +kernel
theorem dX4_init_58 : decode cX4_init 58 = .ok (.invokespecial 31, 3) := by decide +kernel
theorem dX4_init_61 : decode cX4_init 61 = .ok (.aastore, 1) := by decide +kernel
theorem dX4_init_62 : decode cX4_init 62 = .ok (.iinc 1 1, 3) := by decide +kernel
theorem dX4_init_65 : decode cX4_init 65 = .ok (.goto (-22), 3) := by decide +kernel
theorem dX4_init_68 : decode cX4_init 68 = .ok (.return_, 1) := by decide +kernel
theorem dX4_copyFrom_0 : decode cX4_copyFrom 0 = .ok (.iconst 0, 1) := by decide +kernel
theorem dX4_copyFrom_1 : decode cX4_copyFrom 1 = .ok (.istore_n 2, 1) := by decide +kernel
theorem dX4_copyFrom_2 : decode cX4_copyFrom 2 = .ok (.iload_n 2, 1) := by decide +kernel
theorem dX4_copyFrom_3 : decode cX4_copyFrom 3 = .ok (.bipush 7, 2) := by decide +kernel
theorem dX4_copyFrom_5 : decode cX4_copyFrom 5 = .ok (.if_icmp .ge 33, 3) := by decide +kernel
theorem dX4_copyFrom_8 : decode cX4_copyFrom 8 = .ok (.aload_n 0, 1) := by decide +kernel
theorem dX4_copyFrom_9 : decode cX4_copyFrom 9 = .ok (.getfield 9, 3) := by decide +kernel
theorem dX4_copyFrom_12 : decode cX4_copyFrom 12 = .ok (.iload_n 2, 1) := by decide +kernel
theorem dX4_copyFrom_13 : decode cX4_copyFrom 13 = .ok (.aload_n 1, 1) := by decide +kernel
theorem dX4_copyFrom_14 : decode cX4_copyFrom 14 = .ok (.getfield 9, 3) := by decide +kernel
theorem dX4_copyFrom_17 : decode cX4_copyFrom 17 = .ok (.iload_n 2, 1) := by decide +kernel
theorem dX4_copyFrom_18 : decode cX4_copyFrom 18 = .ok (.iaload, 1) := by decide +kernel
theorem dX4_copyFrom_19 : decode cX4_copyFrom 19 = .ok (.iastore, 1) := by decide +kernel
theorem dX4_copyFrom_20 : decode cX4_copyFrom 20 = .ok (.aload_n 0, 1) := by decide +kernel
theorem dX4_copyFrom_21 : decode cX4_copyFrom 21 = .ok (.getfield 15, 3) := by decide +kernel
theorem dX4_copyFrom_24 : decode cX4_copyFrom 24 = .ok (.iload_n 2, 1) := by decide +kernel
theorem dX4_copyFrom_25 : decode cX4_copyFrom 25 = .ok (.aload_n 1, 1) := by decide +kernel
theorem dX4_copyFrom_26 : decode cX4_copyFrom 26 = .ok (.getfield 15, 3) := by decide +kernel
theorem dX4_copyFrom_29 : decode cX4_copyFrom 29 = .ok (.iload_n 2, 1) := by decide +kernel
theorem dX4_copyFrom_30 : decode cX4_copyFrom 30 = .ok (.iaload, 1) := by decide +kernel
theorem dX4_copyFrom_31 : decode cX4_copyFrom 31 = .ok (.iastore, 1) := by decide +kernel
theorem dX4_copyFrom_32 : decode cX4_copyFrom 32 = .ok (.iinc 2 1, 3) := by decide +kernel
theorem dX4_copyFrom_35 : decode cX4_copyFrom 35 = .ok (.goto (-33), 3) := by decide +kernel
theorem dX4_copyFrom_38 : decode cX4_copyFrom 38 = .ok (.iconst 0, 1) := by decide +kernel
theorem dX4_copyFrom_39 : decode cX4_copyFrom 39 = .ok (.istore_n 2, 1) := by decide +kernel
theorem dX4_copyFrom_40 : decode cX4_copyFrom 40 = .ok (.iload_n 2, 1) := by decide +kernel
theorem dX4_copyFrom_41 : decode cX4_copyFrom 41 = .ok (.aload_n 1, 1) := by decide +kernel
theorem dX4_copyFrom_42 : decode cX4_copyFrom 42 = .ok (.getfield 32, 3) := by decide +kernel
theorem dX4_copyFrom_45 : decode cX4_copyFrom 45 = .ok (.if_icmp .ge 24, 3) := by decide +kernel
theorem dX4_copyFrom_48 : decode cX4_copyFrom 48 = .ok (.aload_n 0, 1) := by decide +kernel
theorem dX4_copyFrom_49 : decode cX4_copyFrom 49 = .ok (.getfield 20, 3) := by decide +kernel
theorem dX4_copyFrom_52 : decode cX4_copyFrom 52 = .ok (.iload_n 2, 1) := by decide +kernel
theorem dX4_copyFrom_53 : decode cX4_copyFrom 53 = .ok (.aaload, 1) := by decide +kernel
theorem dX4_copyFrom_54 : decode cX4_copyFrom 54 = .ok (.aload_n 1, 1) := by decide +kernel
theorem dX4_copyFrom_55 : decode cX4_copyFrom 55 = .ok (.getfield 20, 3) := by decide +kernel
theorem dX4_copyFrom_58 : decode cX4_copyFrom 58 = .ok (.iload_n 2, 1) := by decide +kernel
theorem dX4_copyFrom_59 : decode cX4_copyFrom 59 = .ok (.aaload, 1) := by decide +kernel
theorem dX4_copyFrom_60 : decode cX4_copyFrom 60 = .ok (.invokevirtual 35, 3) := by decide +kernel
theorem dX4_copyFrom_63 : decode cX4_copyFrom 63 = .ok (.iinc 2 1, 3) := by decide +kernel
theorem dX4_copyFrom_66 : decode cX4_copyFrom 66 = .ok (.goto (-26), 3) := by decide +kernel
theorem dX4_copyFrom_69 : decode cX4_copyFrom 69 = .ok (.aload_n 0, 1) := by decide +kernel
theorem dX4_copyFrom_70 : decode cX4_copyFrom 70 = .ok (.aload_n 1, 1) := by decide +kernel
theorem dX4_copyFrom_71 : decode cX4_copyFrom 71 = .ok (.getfield 32, 3) := by decide +kernel
theorem dX4_copyFrom_74 : decode cX4_copyFrom 74 = .ok (.putfield 32, 3) := by decide +kernel
theorem dX4_copyFrom_77 : decode cX4_copyFrom 77 = .ok (.aload_n 0, 1) := by decide +kernel
theorem dX4_copyFrom_78 : decode cX4_copyFrom 78 = .ok (.aload_n 1, 1) := by decide +kernel
theorem dX4_copyFrom_79 : decode cX4_copyFrom 79 = .ok (.getfield 39, 3) := by decide +kernel
theorem dX4_copyFrom_82 : decode cX4_copyFrom 82 = .ok (.putfield 39, 3) := by decide +kernel
theorem dX4_copyFrom_85 : decode cX4_copyFrom 85 = .ok (.aload_n 0, 1) := by decide +kernel
theorem dX4_copyFrom_86 : decode cX4_copyFrom 86 = .ok (.aload_n 1, 1) := by decide +kernel
theorem dX4_copyFrom_87 : decode cX4_copyFrom 87 = .ok (.getfield 24, 3) := by decide +kernel
theorem dX4_copyFrom_90 : decode cX4_copyFrom 90 = .ok (.putfield 24, 3) := by decide +kernel
theorem dX4_copyFrom_93 : decode cX4_copyFrom 93 = .ok (.aload_n 0, 1) := by decide +kernel
theorem dX4_copyFrom_94 : decode cX4_copyFrom 94 = .ok (.aload_n 1, 1) := by decide +kernel
theorem dX4_copyFrom_95 : decode cX4_copyFrom 95 = .ok (.getfield 28, 3) := by decide +kernel
theorem dX4_copyFrom_98 : decode cX4_copyFrom 98 = .ok (.putfield 28, 3) := by decide +kernel
theorem dX4_copyFrom_101 : decode cX4_copyFrom 101 = .ok (.aload_n 0, 1) := by decide +kernel
theorem dX4_copyFrom_102 : decode cX4_copyFrom 102 = .ok (.aload_n 1, 1) := by decide +kernel
theorem dX4_copyFrom_103 : decode cX4_copyFrom 103 = .ok (.getfield 42, 3) := by decide +kernel
theorem dX4_copyFrom_106 : decode cX4_copyFrom 106 = .ok (.putfield 42, 3) := by decide +kernel
theorem dX4_copyFrom_109 : decode cX4_copyFrom 109 = .ok (.return_, 1) := by decide +kernel
theorem dX4_has_0 : decode cX4_has 0 = .ok (.iload_n 1, 1) := by decide +kernel
theorem dX4_has_1 : decode cX4_has 1 = .ok (.ifCond .lt 15, 3) := by decide +kernel
theorem dX4_has_4 : decode cX4_has 4 = .ok (.iload_n 1, 1) := by decide +kernel
theorem dX4_has_5 : decode cX4_has 5 = .ok (.aload_n 0, 1) := by decide +kernel
theorem dX4_has_6 : decode cX4_has 6 = .ok (.getfield 32, 3) := by decide +kernel
theorem dX4_has_9 : decode cX4_has 9 = .ok (.if_icmp .ge 7, 3) := by decide +kernel
theorem dX4_has_12 : decode cX4_has 12 = .ok (.iconst 1, 1) := by decide +kernel
theorem dX4_has_13 : decode cX4_has 13 = .ok (.goto 4, 3) := by decide +kernel
theorem dX4_has_16 : decode cX4_has 16 = .ok (.iconst 0, 1) := by decide +kernel
theorem dX4_has_17 : decode cX4_has 17 = .ok (.ireturn, 1) := by decide +kernel
theorem dX4_allShips_0 : decode cX4_allShips 0 = .ok (.iconst 1, 1) := by decide +kernel
theorem dX4_allShips_1 : decode cX4_allShips 1 = .ok (.aload_n 0, 1) := by decide +kernel
theorem dX4_allShips_2 : decode cX4_allShips 2 = .ok (.getfield 32, 3) := by decide +kernel
theorem dX4_allShips_5 : decode cX4_allShips 5 = .ok (.ishl, 1) := by decide +kernel
theorem dX4_allShips_6 : decode cX4_allShips 6 = .ok (.iconst 1, 1) := by decide +kernel
theorem dX4_allShips_7 : decode cX4_allShips 7 = .ok (.isub, 1) := by decide +kernel
theorem dX4_allShips_8 : decode cX4_allShips 8 = .ok (.ireturn, 1) := by decide +kernel
theorem dX4_gapToPlace_0 : decode cX4_gapToPlace 0 = .ok (.aload_n 0, 1) := by decide +kernel
theorem dX4_gapToPlace_1 : decode cX4_gapToPlace 1 = .ok (.getfield 20, 3) := by decide +kernel
theorem dX4_gapToPlace_4 : decode cX4_gapToPlace 4 = .ok (.iload_n 1, 1) := by decide +kernel
theorem dX4_gapToPlace_5 : decode cX4_gapToPlace 5 = .ok (.aaload, 1) := by decide +kernel
theorem dX4_gapToPlace_6 : decode cX4_gapToPlace 6 = .ok (.getfield 45, 3) := by decide +kernel
theorem dX4_gapToPlace_9 : decode cX4_gapToPlace 9 = .ok (.iload_n 2, 1) := by decide +kernel
theorem dX4_gapToPlace_10 : decode cX4_gapToPlace 10 = .ok (.isub, 1) := by decide +kernel
theorem dX4_gapToPlace_11 : decode cX4_gapToPlace 11 = .ok (.invokestatic 48, 3) := by decide +kernel
theorem dX4_gapToPlace_14 : decode cX4_gapToPlace 14 = .ok (.aload_n 0, 1) := by decide +kernel
theorem dX4_gapToPlace_15 : decode cX4_gapToPlace 15 = .ok (.getfield 20, 3) := by decide +kernel
theorem dX4_gapToPlace_18 : decode cX4_gapToPlace 18 = .ok (.iload_n 1, 1) := by decide +kernel
theorem dX4_gapToPlace_19 : decode cX4_gapToPlace 19 = .ok (.aaload, 1) := by decide +kernel
theorem dX4_gapToPlace_20 : decode cX4_gapToPlace 20 = .ok (.getfield 54, 3) := by decide +kernel
theorem dX4_gapToPlace_23 : decode cX4_gapToPlace 23 = .ok (.iload_n 3, 1) := by decide +kernel
theorem dX4_gapToPlace_24 : decode cX4_gapToPlace 24 = .ok (.isub, 1) := by decide +kernel
theorem dX4_gapToPlace_25 : decode cX4_gapToPlace 25 = .ok (.invokestatic 48, 3) := by decide +kernel
theorem dX4_gapToPlace_28 : decode cX4_gapToPlace 28 = .ok (.invokestatic 57, 3) := by decide +kernel
theorem dX4_gapToPlace_31 : decode cX4_gapToPlace 31 = .ok (.ireturn, 1) := by decide +kernel
theorem dX4_gap_0 : decode cX4_gap 0 = .ok (.aload_n 0, 1) := by decide +kernel
theorem dX4_gap_1 : decode cX4_gap 1 = .ok (.iload_n 1, 1) := by decide +kernel
theorem dX4_gap_2 : decode cX4_gap 2 = .ok (.aload_n 0, 1) := by decide +kernel
theorem dX4_gap_3 : decode cX4_gap 3 = .ok (.getfield 20, 3) := by decide +kernel
theorem dX4_gap_6 : decode cX4_gap 6 = .ok (.iload_n 2, 1) := by decide +kernel
theorem dX4_gap_7 : decode cX4_gap 7 = .ok (.aaload, 1) := by decide +kernel
theorem dX4_gap_8 : decode cX4_gap 8 = .ok (.getfield 45, 3) := by decide +kernel
theorem dX4_gap_11 : decode cX4_gap 11 = .ok (.aload_n 0, 1) := by decide +kernel
theorem dX4_gap_12 : decode cX4_gap 12 = .ok (.getfield 20, 3) := by decide +kernel
theorem dX4_gap_15 : decode cX4_gap 15 = .ok (.iload_n 2, 1) := by decide +kernel
theorem dX4_gap_16 : decode cX4_gap 16 = .ok (.aaload, 1) := by decide +kernel
theorem dX4_gap_17 : decode cX4_gap 17 = .ok (.getfield 54, 3) := by decide +kernel
theorem dX4_gap_20 : decode cX4_gap 20 = .ok (.invokevirtual 61, 3) := by decide +kernel
theorem dX4_gap_23 : decode cX4_gap 23 = .ok (.ireturn, 1) := by decide +kernel
theorem dX4_pairsWithin_0 : decode cX4_pairsWithin 0 = .ok (.iconst 0, 1) := by decide +kernel
theorem dX4_pairsWithin_1 : decode cX4_pairsWithin 1 = .ok (.istore_n 2, 1) := by decide +kernel
theorem dX4_pairsWithin_2 : decode cX4_pairsWithin 2 = .ok (.iconst 0, 1) := by decide +kernel
theorem dX4_pairsWithin_3 : decode cX4_pairsWithin 3 = .ok (.istore_n 3, 1) := by decide +kernel
theorem dX4_pairsWithin_4 : decode cX4_pairsWithin 4 = .ok (.iload_n 3, 1) := by decide +kernel
theorem dX4_pairsWithin_5 : decode cX4_pairsWithin 5 = .ok (.aload_n 0, 1) := by decide +kernel
theorem dX4_pairsWithin_6 : decode cX4_pairsWithin 6 = .ok (.getfield 32, 3) := by decide +kernel
theorem dX4_pairsWithin_9 : decode cX4_pairsWithin 9 = .ok (.if_icmp .ge 38, 3) := by decide +kernel
theorem dX4_pairsWithin_12 : decode cX4_pairsWithin 12 = .ok (.iconst 0, 1) := by decide +kernel
theorem dX4_pairsWithin_13 : decode cX4_pairsWithin 13 = .ok (.istore 4, 2) := by decide +kernel
theorem dX4_pairsWithin_15 : decode cX4_pairsWithin 15 = .ok (.iload 4, 2) := by decide +kernel
theorem dX4_pairsWithin_17 : decode cX4_pairsWithin 17 = .ok (.iload_n 3, 1) := by decide +kernel
theorem dX4_pairsWithin_18 : decode cX4_pairsWithin 18 = .ok (.if_icmp .ge 23, 3) := by decide +kernel
theorem dX4_pairsWithin_21 : decode cX4_pairsWithin 21 = .ok (.aload_n 0, 1) := by decide +kernel
theorem dX4_pairsWithin_22 : decode cX4_pairsWithin 22 = .ok (.iload_n 3, 1) := by decide +kernel
theorem dX4_pairsWithin_23 : decode cX4_pairsWithin 23 = .ok (.iload 4, 2) := by decide +kernel
theorem dX4_pairsWithin_25 : decode cX4_pairsWithin 25 = .ok (.invokevirtual 65, 3) := by decide +kernel
theorem dX4_pairsWithin_28 : decode cX4_pairsWithin 28 = .ok (.iload_n 1, 1) := by decide +kernel
theorem dX4_pairsWithin_29 : decode cX4_pairsWithin 29 = .ok (.if_icmp .gt 6, 3) := by decide +kernel
theorem dX4_pairsWithin_32 : decode cX4_pairsWithin 32 = .ok (.iinc 2 1, 3) := by decide +kernel
theorem dX4_pairsWithin_35 : decode cX4_pairsWithin 35 = .ok (.iinc 4 1, 3) := by decide +kernel
theorem dX4_pairsWithin_38 : decode cX4_pairsWithin 38 = .ok (.goto (-23), 3) := by decide +kernel
theorem dX4_pairsWithin_41 : decode cX4_pairsWithin 41 = .ok (.iinc 3 1, 3) := by decide +kernel
theorem dX4_pairsWithin_44 : decode cX4_pairsWithin 44 = .ok (.goto (-40), 3) := by decide +kernel
theorem dX4_pairsWithin_47 : decode cX4_pairsWithin 47 = .ok (.iload_n 2, 1) := by decide +kernel
theorem dX4_pairsWithin_48 : decode cX4_pairsWithin 48 = .ok (.ireturn, 1) := by decide +kernel
theorem dX4_isSeen_0 : decode cX4_isSeen 0 = .ok (.iconst 0, 1) := by decide +kernel
theorem dX4_isSeen_1 : decode cX4_isSeen 1 = .ok (.istore_n 2, 1) := by decide +kernel
theorem dX4_isSeen_2 : decode cX4_isSeen 2 = .ok (.iload_n 2, 1) := by decide +kernel
theorem dX4_isSeen_3 : decode cX4_isSeen 3 = .ok (.aload_n 0, 1) := by decide +kernel
theorem dX4_isSeen_4 : decode cX4_isSeen 4 = .ok (.getfield 32, 3) := by decide +kernel
theorem dX4_isSeen_7 : decode cX4_isSeen 7 = .ok (.if_icmp .ge 29, 3) := by decide +kernel
theorem dX4_isSeen_10 : decode cX4_isSeen 10 = .ok (.iload_n 2, 1) := by decide +kernel
theorem dX4_isSeen_11 : decode cX4_isSeen 11 = .ok (.iload_n 1, 1) := by decide +kernel
theorem dX4_isSeen_12 : decode cX4_isSeen 12 = .ok (.if_icmp .eq 18, 3) := by decide +kernel
theorem dX4_isSeen_15 : decode cX4_isSeen 15 = .ok (.aload_n 0, 1) := by decide +kernel
theorem dX4_isSeen_16 : decode cX4_isSeen 16 = .ok (.iload_n 2, 1) := by decide +kernel
theorem dX4_isSeen_17 : decode cX4_isSeen 17 = .ok (.iload_n 1, 1) := by decide +kernel
theorem dX4_isSeen_18 : decode cX4_isSeen 18 = .ok (.invokevirtual 65, 3) := by decide +kernel
theorem dX4_isSeen_21 : decode cX4_isSeen 21 = .ok (.aload_n 0, 1) := by decide +kernel
theorem dX4_isSeen_22 : decode cX4_isSeen 22 = .ok (.getfield 28, 3) := by decide +kernel
theorem dX4_isSeen_25 : decode cX4_isSeen 25 = .ok (.if_icmp .gt 5, 3) := by decide +kernel
theorem dX4_isSeen_28 : decode cX4_isSeen 28 = .ok (.iconst 1, 1) := by decide +kernel
theorem dX4_isSeen_29 : decode cX4_isSeen 29 = .ok (.ireturn, 1) := by decide +kernel
theorem dX4_isSeen_30 : decode cX4_isSeen 30 = .ok (.iinc 2 1, 3) := by decide +kernel
theorem dX4_isSeen_33 : decode cX4_isSeen 33 = .ok (.goto (-31), 3) := by decide +kernel
theorem dX4_isSeen_36 : decode cX4_isSeen 36 = .ok (.iconst 0, 1) := by decide +kernel
theorem dX4_isSeen_37 : decode cX4_isSeen 37 = .ok (.ireturn, 1) := by decide +kernel
theorem dX4_oneLeadOn_0 : decode cX4_oneLeadOn 0 = .ok (.iload_n 1, 1) := by decide +kernel
theorem dX4_oneLeadOn_1 : decode cX4_oneLeadOn 1 = .ok (.istore_n 2, 1) := by decide +kernel
theorem dX4_oneLeadOn_2 : decode cX4_oneLeadOn 2 = .ok (.iconst 0, 1) := by decide +kernel
theorem dX4_oneLeadOn_3 : decode cX4_oneLeadOn 3 = .ok (.istore_n 3, 1) := by decide +kernel
theorem dX4_oneLeadOn_4 : decode cX4_oneLeadOn 4 = .ok (.iload_n 3, 1) := by decide +kernel
theorem dX4_oneLeadOn_5 : decode cX4_oneLeadOn 5 = .ok (.aload_n 0, 1) := by decide +kernel
theorem dX4_oneLeadOn_6 : decode cX4_oneLeadOn 6 = .ok (.getfield 32, 3) := by decide +kernel
theorem dX4_oneLeadOn_9 : decode cX4_oneLeadOn 9 = .ok (.if_icmp .ge 56, 3) := by decide +kernel
theorem dX4_oneLeadOn_12 : decode cX4_oneLeadOn 12 = .ok (.iconst 0, 1) := by decide +kernel
theorem dX4_oneLeadOn_13 : decode cX4_oneLeadOn 13 = .ok (.istore 4, 2) := by decide +kernel
theorem dX4_oneLeadOn_15 : decode cX4_oneLeadOn 15 = .ok (.iload 4, 2) := by decide +kernel
theorem dX4_oneLeadOn_17 : decode cX4_oneLeadOn 17 = .ok (.aload_n 0, 1) := by decide +kernel
theorem dX4_oneLeadOn_18 : decode cX4_oneLeadOn 18 = .ok (.getfield 32, 3) := by decide +kernel
theorem dX4_oneLeadOn_21 : decode cX4_oneLeadOn 21 = .ok (.if_icmp .ge 38, 3) := by decide +kernel
theorem dX4_oneLeadOn_24 : decode cX4_oneLeadOn 24 = .ok (.iload_n 1, 1) := by decide +kernel
theorem dX4_oneLeadOn_25 : decode cX4_oneLeadOn 25 = .ok (.iconst 1, 1) := by decide +kernel
theorem dX4_oneLeadOn_26 : decode cX4_oneLeadOn 26 = .ok (.iload_n 3, 1) := by decide +kernel
theorem dX4_oneLeadOn_27 : decode cX4_oneLeadOn 27 = .ok (.ishl, 1) := by decide +kernel
theorem dX4_oneLeadOn_28 : decode cX4_oneLeadOn 28 = .ok (.iand, 1) := by decide +kernel
theorem dX4_oneLeadOn_29 : decode cX4_oneLeadOn 29 = .ok (.ifCond .eq 24, 3) := by decide +kernel
theorem dX4_oneLeadOn_32 : decode cX4_oneLeadOn 32 = .ok (.aload_n 0, 1) := by decide +kernel
theorem dX4_oneLeadOn_33 : decode cX4_oneLeadOn 33 = .ok (.iload_n 3, 1) := by decide +kernel
theorem dX4_oneLeadOn_34 : decode cX4_oneLeadOn 34 = .ok (.iload 4, 2) := by decide +kernel
theorem dX4_oneLeadOn_36 : decode cX4_oneLeadOn 36 = .ok (.invokevirtual 65, 3) := by decide +kernel
theorem dX4_oneLeadOn_39 : decode cX4_oneLeadOn 39 = .ok (.aload_n 0, 1) := by decide +kernel
theorem dX4_oneLeadOn_40 : decode cX4_oneLeadOn 40 = .ok (.getfield 24, 3) := by decide +kernel
theorem dX4_oneLeadOn_43 : decode cX4_oneLeadOn 43 = .ok (.if_icmp .gt 10, 3) := by decide +kernel
theorem dX4_oneLeadOn_46 : decode cX4_oneLeadOn 46 = .ok (.iload_n 2, 1) := by decide +kernel
theorem dX4_oneLeadOn_47 : decode cX4_oneLeadOn 47 = .ok (.iconst 1, 1) := by decide +kernel
theorem dX4_oneLeadOn_48 : decode cX4_oneLeadOn 48 = .ok (.iload 4, 2) := by decide +kernel
theorem dX4_oneLeadOn_50 : decode cX4_oneLeadOn 50 = .ok (.ishl, 1) := by decide +kernel
theorem dX4_oneLeadOn_51 : decode cX4_oneLeadOn 51 = .ok (.ior, 1) := by decide +kernel
theorem dX4_oneLeadOn_52 : decode cX4_oneLeadOn 52 = .ok (.istore_n 2, 1) := by decide +kernel
theorem dX4_oneLeadOn_53 : decode cX4_oneLeadOn 53 = .ok (.iinc 4 1, 3) := by decide +kernel
theorem dX4_oneLeadOn_56 : decode cX4_oneLeadOn 56 = .ok (.goto (-41), 3) := by decide +kernel
theorem dX4_oneLeadOn_59 : decode cX4_oneLeadOn 59 = .ok (.iinc 3 1, 3) := by decide +kernel
theorem dX4_oneLeadOn_62 : decode cX4_oneLeadOn 62 = .ok (.goto (-58), 3) := by decide +kernel
theorem dX4_oneLeadOn_65 : decode cX4_oneLeadOn 65 = .ok (.iload_n 2, 1) := by decide +kernel
theorem dX4_oneLeadOn_66 : decode cX4_oneLeadOn 66 = .ok (.ireturn, 1) := by decide +kernel
theorem dX4_groupOf_0 : decode cX4_groupOf 0 = .ok (.iconst 1, 1) := by decide +kernel
theorem dX4_groupOf_1 : decode cX4_groupOf 1 = .ok (.iload_n 1, 1) := by decide +kernel
theorem dX4_groupOf_2 : decode cX4_groupOf 2 = .ok (.ishl, 1) := by decide +kernel
theorem dX4_groupOf_3 : decode cX4_groupOf 3 = .ok (.istore_n 2, 1) := by decide +kernel
theorem dX4_groupOf_4 : decode cX4_groupOf 4 = .ok (.iconst 1, 1) := by decide +kernel
theorem dX4_groupOf_5 : decode cX4_groupOf 5 = .ok (.istore_n 3, 1) := by decide +kernel
theorem dX4_groupOf_6 : decode cX4_groupOf 6 = .ok (.iload_n 3, 1) := by decide +kernel
theorem dX4_groupOf_7 : decode cX4_groupOf 7 = .ok (.aload_n 0, 1) := by decide +kernel
theorem dX4_groupOf_8 : decode cX4_groupOf 8 = .ok (.getfield 32, 3) := by decide +kernel
theorem dX4_groupOf_11 : decode cX4_groupOf 11 = .ok (.if_icmp .ge 15, 3) := by decide +kernel
theorem dX4_groupOf_14 : decode cX4_groupOf 14 = .ok (.aload_n 0, 1) := by decide +kernel
theorem dX4_groupOf_15 : decode cX4_groupOf 15 = .ok (.iload_n 2, 1) := by decide +kernel
theorem dX4_groupOf_16 : decode cX4_groupOf 16 = .ok (.invokevirtual 68, 3) := by decide +kernel
theorem dX4_groupOf_19 : decode cX4_groupOf 19 = .ok (.istore_n 2, 1) := by decide +kernel
theorem dX4_groupOf_20 : decode cX4_groupOf 20 = .ok (.iinc 3 1, 3) := by decide +kernel
theorem dX4_groupOf_23 : decode cX4_groupOf 23 = .ok (.goto (-17), 3) := by decide +kernel
theorem dX4_groupOf_26 : decode cX4_groupOf 26 = .ok (.iload_n 2, 1) := by decide +kernel
theorem dX4_groupOf_27 : decode cX4_groupOf 27 = .ok (.ireturn, 1) := by decide +kernel
theorem dX4_nearestTo_0 : decode cX4_nearestTo 0 = .ok (.bipush (-9), 2) := by decide +kernel
theorem dX4_nearestTo_2 : decode cX4_nearestTo 2 = .ok (.istore 4, 2) := by decide +kernel
theorem dX4_nearestTo_4 : decode cX4_nearestTo 4 = .ok (.iconst 0, 1) := by decide +kernel
theorem dX4_nearestTo_5 : decode cX4_nearestTo 5 = .ok (.istore 5, 2) := by decide +kernel
theorem dX4_nearestTo_7 : decode cX4_nearestTo 7 = .ok (.iload 5, 2) := by decide +kernel
theorem dX4_nearestTo_9 : decode cX4_nearestTo 9 = .ok (.aload_n 0, 1) := by decide +kernel
theorem dX4_nearestTo_10 : decode cX4_nearestTo 10 = .ok (.getfield 32, 3) := by decide +kernel
theorem dX4_nearestTo_13 : decode cX4_nearestTo 13 = .ok (.if_icmp .ge 45, 3) := by decide +kernel
theorem dX4_nearestTo_16 : decode cX4_nearestTo 16 = .ok (.iload 5, 2) := by decide +kernel
theorem dX4_nearestTo_18 : decode cX4_nearestTo 18 = .ok (.iload_n 3, 1) := by decide +kernel
theorem dX4_nearestTo_19 : decode cX4_nearestTo 19 = .ok (.if_icmp .eq 33, 3) := by decide +kernel
theorem dX4_nearestTo_22 : decode cX4_nearestTo 22 = .ok (.iload 4, 2) := by decide +kernel
theorem dX4_nearestTo_24 : decode cX4_nearestTo 24 = .ok (.bipush (-9), 2) := by decide +kernel
theorem dX4_nearestTo_26 : decode cX4_nearestTo 26 = .ok (.if_icmp .eq 22, 3) := by decide +kernel
theorem dX4_nearestTo_29 : decode cX4_nearestTo 29 = .ok (.aload_n 0, 1) := by decide +kernel
theorem dX4_nearestTo_30 : decode cX4_nearestTo 30 = .ok (.iload 5, 2) := by decide +kernel
theorem dX4_nearestTo_32 : decode cX4_nearestTo 32 = .ok (.iload_n 1, 1) := by decide +kernel
theorem dX4_nearestTo_33 : decode cX4_nearestTo 33 = .ok (.iload_n 2, 1) := by decide +kernel
theorem dX4_nearestTo_34 : decode cX4_nearestTo 34 = .ok (.invokevirtual 61, 3) := by decide +kernel
theorem dX4_nearestTo_37 : decode cX4_nearestTo 37 = .ok (.aload_n 0, 1) := by decide +kernel
theorem dX4_nearestTo_38 : decode cX4_nearestTo 38 = .ok (.iload 4, 2) := by decide +kernel
theorem dX4_nearestTo_40 : decode cX4_nearestTo 40 = .ok (.iload_n 1, 1) := by decide +kernel
theorem dX4_nearestTo_41 : decode cX4_nearestTo 41 = .ok (.iload_n 2, 1) := by decide +kernel
theorem dX4_nearestTo_42 : decode cX4_nearestTo 42 = .ok (.invokevirtual 61, 3) := by decide +kernel
theorem dX4_nearestTo_45 : decode cX4_nearestTo 45 = .ok (.if_icmp .ge 7, 3) := by decide +kernel
theorem dX4_nearestTo_48 : decode cX4_nearestTo 48 = .ok (.iload 5, 2) := by decide +kernel
theorem dX4_nearestTo_50 : decode cX4_nearestTo 50 = .ok (.istore 4, 2) := by decide +kernel
theorem dX4_nearestTo_52 : decode cX4_nearestTo 52 = .ok (.iinc 5 1, 3) := by decide +kernel
theorem dX4_nearestTo_55 : decode cX4_nearestTo 55 = .ok (.goto (-48), 3) := by decide +kernel
theorem dX4_nearestTo_58 : decode cX4_nearestTo 58 = .ok (.iload 4, 2) := by decide +kernel
theorem dX4_nearestTo_60 : decode cX4_nearestTo 60 = .ok (.ireturn, 1) := by decide +kernel
theorem dX4_airOf_0 : decode cX4_airOf 0 = .ok (.iload_n 1, 1) := by decide +kernel
theorem dX4_airOf_1 : decode cX4_airOf 1 = .ok (.bipush 7, 2) := by decide +kernel
theorem dX4_airOf_3 : decode cX4_airOf 3 = .ok (.invokestatic 71, 3) := by decide +kernel
theorem dX4_airOf_6 : decode cX4_airOf 6 = .ok (.istore_n 3, 1) := by decide +kernel
theorem dX4_airOf_7 : decode cX4_airOf 7 = .ok (.iload_n 1, 1) := by decide +kernel
theorem dX4_airOf_8 : decode cX4_airOf 8 = .ok (.iconst 1, 1) := by decide +kernel
theorem dX4_airOf_9 : decode cX4_airOf 9 = .ok (.isub, 1) := by decide +kernel
theorem dX4_airOf_10 : decode cX4_airOf 10 = .ok (.bipush 7, 2) := by decide +kernel
theorem dX4_airOf_12 : decode cX4_airOf 12 = .ok (.invokestatic 71, 3) := by decide +kernel
theorem dX4_airOf_15 : decode cX4_airOf 15 = .ok (.istore 4, 2) := by decide +kernel
theorem dX4_airOf_17 : decode cX4_airOf 17 = .ok (.aload_n 2, 1) := by decide +kernel
theorem dX4_airOf_18 : decode cX4_airOf 18 = .ok (.iload_n 1, 1) := by decide +kernel
theorem dX4_airOf_19 : decode cX4_airOf 19 = .ok (.putfield 74, 3) := by decide +kernel
theorem dX4_airOf_22 : decode cX4_airOf 22 = .ok (.aload_n 2, 1) := by decide +kernel
theorem dX4_airOf_23 : decode cX4_airOf 23 = .ok (.aload_n 0, 1) := by decide +kernel
theorem dX4_airOf_24 : decode cX4_airOf 24 = .ok (.getfield 9, 3) := by decide +kernel
theorem dX4_airOf_27 : decode cX4_airOf 27 = .ok (.iload_n 3, 1) := by decide +kernel
theorem dX4_airOf_28 : decode cX4_airOf 28 = .ok (.iaload, 1) := by decide +kernel
theorem dX4_airOf_29 : decode cX4_airOf 29 = .ok (.putfield 77, 3) := by decide +kernel
theorem dX4_airOf_32 : decode cX4_airOf 32 = .ok (.aload_n 2, 1) := by decide +kernel
theorem dX4_airOf_33 : decode cX4_airOf 33 = .ok (.aload_n 0, 1) := by decide +kernel
theorem dX4_airOf_34 : decode cX4_airOf 34 = .ok (.getfield 15, 3) := by decide +kernel
theorem dX4_airOf_37 : decode cX4_airOf 37 = .ok (.iload_n 3, 1) := by decide +kernel
theorem dX4_airOf_38 : decode cX4_airOf 38 = .ok (.iaload, 1) := by decide +kernel
theorem dX4_airOf_39 : decode cX4_airOf 39 = .ok (.putfield 78, 3) := by decide +kernel
theorem dX4_airOf_42 : decode cX4_airOf 42 = .ok (.aload_n 2, 1) := by decide +kernel
theorem dX4_airOf_43 : decode cX4_airOf 43 = .ok (.aload_n 0, 1) := by decide +kernel
theorem dX4_airOf_44 : decode cX4_airOf 44 = .ok (.getfield 9, 3) := by decide +kernel
theorem dX4_airOf_47 : decode cX4_airOf 47 = .ok (.iload 4, 2) := by decide +kernel
theorem dX4_airOf_49 : decode cX4_airOf 49 = .ok (.iaload, 1) := by decide +kernel
theorem dX4_airOf_50 : decode cX4_airOf 50 = .ok (.putfield 79, 3) := by decide +kernel
theorem dX4_airOf_53 : decode cX4_airOf 53 = .ok (.aload_n 2, 1) := by decide +kernel
theorem dX4_airOf_54 : decode cX4_airOf 54 = .ok (.aload_n 0, 1) := by decide +kernel
theorem dX4_airOf_55 : decode cX4_airOf 55 = .ok (.getfield 15, 3) := by decide +kernel
theorem dX4_airOf_58 : decode cX4_airOf 58 = .ok (.iload 4, 2) := by decide +kernel
theorem dX4_airOf_60 : decode cX4_airOf 60 = .ok (.iaload, 1) := by decide +kernel
theorem dX4_airOf_61 : decode cX4_airOf 61 = .ok (.putfield 82, 3) := by decide +kernel
theorem dX4_airOf_64 : decode cX4_airOf 64 = .ok (.return_, 1) := by decide +kernel
theorem dX4_passDay_0 : decode cX4_passDay 0 = .ok (.iconst 0, 1) := by decide +kernel
theorem dX4_passDay_1 : decode cX4_passDay 1 = .ok (.istore_n 3, 1) := by decide +kernel
theorem dX4_passDay_2 : decode cX4_passDay 2 = .ok (.iconst 0, 1) := by decide +kernel
theorem dX4_passDay_3 : decode cX4_passDay 3 = .ok (.istore 4, 2) := by decide +kernel
theorem dX4_passDay_5 : decode cX4_passDay 5 = .ok (.iload 4, 2) := by decide +kernel
theorem dX4_passDay_7 : decode cX4_passDay 7 = .ok (.aload_n 0, 1) := by decide +kernel
theorem dX4_passDay_8 : decode cX4_passDay 8 = .ok (.getfield 32, 3) := by decide +kernel
theorem dX4_passDay_11 : decode cX4_passDay 11 = .ok (.if_icmp .ge 77, 3) := by decide +kernel
theorem dX4_passDay_14 : decode cX4_passDay 14 = .ok (.aload_n 0, 1) := by decide +kernel
theorem dX4_passDay_15 : decode cX4_passDay 15 = .ok (.getfield 20, 3) := by decide +kernel
theorem dX4_passDay_18 : decode cX4_passDay 18 = .ok (.iload 4, 2) := by decide +kernel
theorem dX4_passDay_20 : decode cX4_passDay 20 = .ok (.aaload, 1) := by decide +kernel
theorem dX4_passDay_21 : decode cX4_passDay 21 = .ok (.astore 5, 2) := by decide +kernel
theorem dX4_passDay_23 : decode cX4_passDay 23 = .ok (.aload_n 2, 1) := by decide +kernel
theorem dX4_passDay_24 : decode cX4_passDay 24 = .ok (.aload 5, 2) := by decide +kernel
theorem dX4_passDay_26 : decode cX4_passDay 26 = .ok (.getfield 85, 3) := by decide +kernel
theorem dX4_passDay_29 : decode cX4_passDay 29 = .ok (.aaload, 1) := by decide +kernel
theorem dX4_passDay_30 : decode cX4_passDay 30 = .ok (.astore 6, 2) := by decide +kernel
theorem dX4_passDay_32 : decode cX4_passDay 32 = .ok (.aload 5, 2) := by decide +kernel
theorem dX4_passDay_34 : decode cX4_passDay 34 = .ok (.dup, 1) := by decide +kernel
theorem dX4_passDay_35 : decode cX4_passDay 35 = .ok (.getfield 45, 3) := by decide +kernel
theorem dX4_passDay_38 : decode cX4_passDay 38 = .ok (.aload 6, 2) := by decide +kernel
theorem dX4_passDay_40 : decode cX4_passDay 40 = .ok (.aload_n 1, 1) := by decide +kernel
theorem dX4_passDay_41 : decode cX4_passDay 41 = .ok (.aload 5, 2) := by decide +kernel
theorem dX4_passDay_43 : decode cX4_passDay 43 = .ok (.getfield 88, 3) := by decide +kernel
theorem dX4_passDay_46 : decode cX4_passDay 46 = .ok (.invokevirtual 91, 3) := by decide +kernel
theorem dX4_passDay_49 : decode cX4_passDay 49 = .ok (.iadd, 1) := by decide +kernel
theorem dX4_passDay_50 : decode cX4_passDay 50 = .ok (.putfield 45, 3) := by decide +kernel
theorem dX4_passDay_53 : decode cX4_passDay 53 = .ok (.aload 5, 2) := by decide +kernel
theorem dX4_passDay_55 : decode cX4_passDay 55 = .ok (.dup, 1) := by decide +kernel
theorem dX4_passDay_56 : decode cX4_passDay 56 = .ok (.getfield 54, 3) := by decide +kernel
theorem dX4_passDay_59 : decode cX4_passDay 59 = .ok (.aload 6, 2) := by decide +kernel
theorem dX4_passDay_61 : decode cX4_passDay 61 = .ok (.aload_n 1, 1) := by decide +kernel
theorem dX4_passDay_62 : decode cX4_passDay 62 = .ok (.aload 5, 2) := by decide +kernel
theorem dX4_passDay_64 : decode cX4_passDay 64 = .ok (.getfield 88, 3) := by decide +kernel
theorem dX4_passDay_67 : decode cX4_passDay 67 = .ok (.invokevirtual 97, 3) := by decide +kernel
theorem dX4_passDay_70 : decode cX4_passDay 70 = .ok (.iadd, 1) := by decide +kernel
theorem dX4_passDay_71 : decode cX4_passDay 71 = .ok (.putfield 54, 3) := by decide +kernel
theorem dX4_passDay_74 : decode cX4_passDay 74 = .ok (.iload_n 3, 1) := by decide +kernel
theorem dX4_passDay_75 : decode cX4_passDay 75 = .ok (.aload 5, 2) := by decide +kernel
theorem dX4_passDay_77 : decode cX4_passDay 77 = .ok (.invokevirtual 100, 3) := by decide +kernel
theorem dX4_passDay_80 : decode cX4_passDay 80 = .ok (.iadd, 1) := by decide +kernel
theorem dX4_passDay_81 : decode cX4_passDay 81 = .ok (.istore_n 3, 1) := by decide +kernel
theorem dX4_passDay_82 : decode cX4_passDay 82 = .ok (.iinc 4 1, 3) := by decide +kernel
theorem dX4_passDay_85 : decode cX4_passDay 85 = .ok (.goto (-80), 3) := by decide +kernel
theorem dX4_passDay_88 : decode cX4_passDay 88 = .ok (.aload_n 0, 1) := by decide +kernel
theorem dX4_passDay_89 : decode cX4_passDay 89 = .ok (.dup, 1) := by decide +kernel
theorem dX4_passDay_90 : decode cX4_passDay 90 = .ok (.getfield 39, 3) := by decide +kernel
theorem dX4_passDay_93 : decode cX4_passDay 93 = .ok (.iconst 1, 1) := by decide +kernel
theorem dX4_passDay_94 : decode cX4_passDay 94 = .ok (.iadd, 1) := by decide +kernel
theorem dX4_passDay_95 : decode cX4_passDay 95 = .ok (.putfield 39, 3) := by decide +kernel
theorem dX4_passDay_98 : decode cX4_passDay 98 = .ok (.iload_n 3, 1) := by decide +kernel
theorem dX4_passDay_99 : decode cX4_passDay 99 = .ok (.ireturn, 1) := by decide +kernel
theorem dX4_hungerToCome_0 : decode cX4_hungerToCome 0 = .ok (.iconst 0, 1) := by decide +kernel
theorem dX4_hungerToCome_1 : decode cX4_hungerToCome 1 = .ok (.istore_n 2, 1) := by decide +kernel
theorem dX4_hungerToCome_2 : decode cX4_hungerToCome 2 = .ok (.iconst 0, 1) := by decide +kernel
theorem dX4_hungerToCome_3 : decode cX4_hungerToCome 3 = .ok (.istore_n 3, 1) := by decide +kernel
theorem dX4_hungerToCome_4 : decode cX4_hungerToCome 4 = .ok (.iload_n 3, 1) := by decide +kernel
theorem dX4_hungerToCome_5 : decode cX4_hungerToCome 5 = .ok (.aload_n 0, 1) := by decide +kernel
theorem dX4_hungerToCome_6 : decode cX4_hungerToCome 6 = .ok (.getfield 32, 3) := by decide +kernel
theorem dX4_hungerToCome_9 : decode cX4_hungerToCome 9 = .ok (.if_icmp .ge 37, 3) := by decide +kernel
theorem dX4_hungerToCome_12 : decode cX4_hungerToCome 12 = .ok (.iload_n 2, 1) := by decide +kernel
theorem dX4_hungerToCome_13 : decode cX4_hungerToCome 13 = .ok (.iconst 0, 1) := by decide +kernel
theorem dX4_hungerToCome_14 : decode cX4_hungerToCome 14 = .ok (.iload_n 1, 1) := by decide +kernel
theorem dX4_hungerToCome_15 : decode cX4_hungerToCome 15 = .ok (.aload_n 0, 1) := by decide +kernel
theorem dX4_hungerToCome_16 : decode cX4_hungerToCome 16 = .ok (.getfield 20, 3) := by decide +kernel
theorem dX4_hungerToCome_19 : decode cX4_hungerToCome 19 = .ok (.iload_n 3, 1) := by decide +kernel
theorem dX4_hungerToCome_20 : decode cX4_hungerToCome 20 = .ok (.aaload, 1) := by decide +kernel
theorem dX4_hungerToCome_21 : decode cX4_hungerToCome 21 = .ok (.getfield 104, 3) := by decide +kernel
theorem dX4_hungerToCome_24 : decode cX4_hungerToCome 24 = .ok (.imul, 1) := by decide +kernel
theorem dX4_hungerToCome_25 : decode cX4_hungerToCome 25 = .ok (.aload_n 0, 1) := by decide +kernel
theorem dX4_hungerToCome_26 : decode cX4_hungerToCome 26 = .ok (.getfield 20, 3) := by decide +kernel
theorem dX4_hungerToCome_29 : decode cX4_hungerToCome 29 = .ok (.iload_n 3, 1) := by decide +kernel
theorem dX4_hungerToCome_30 : decode cX4_hungerToCome 30 = .ok (.aaload, 1) := by decide +kernel
theorem dX4_hungerToCome_31 : decode cX4_hungerToCome 31 = .ok (.getfield 107, 3) := by decide +kernel
theorem dX4_hungerToCome_34 : decode cX4_hungerToCome 34 = .ok (.isub, 1) := by decide +kernel
theorem dX4_hungerToCome_35 : decode cX4_hungerToCome 35 = .ok (.invokestatic 57, 3) := by decide +kernel
theorem dX4_hungerToCome_38 : decode cX4_hungerToCome 38 = .ok (.iadd, 1) := by decide +kernel
theorem dX4_hungerToCome_39 : decode cX4_hungerToCome 39 = .ok (.istore_n 2, 1) := by decide +kernel
theorem dX4_hungerToCome_40 : decode cX4_hungerToCome 40 = .ok (.iinc 3 1, 3) := by decide +kernel
theorem dX4_hungerToCome_43 : decode cX4_hungerToCome 43 = .ok (.goto (-39), 3) := by decide +kernel
theorem dX4_hungerToCome_46 : decode cX4_hungerToCome 46 = .ok (.iload_n 2, 1) := by decide +kernel
theorem dX4_hungerToCome_47 : decode cX4_hungerToCome 47 = .ok (.ireturn, 1) := by decide +kernel
theorem dX4_giveUp_0 : decode cX4_giveUp 0 = .ok (.aload_n 0, 1) := by decide +kernel
theorem dX4_giveUp_1 : decode cX4_giveUp 1 = .ok (.getfield 20, 3) := by decide +kernel
theorem dX4_giveUp_4 : decode cX4_giveUp 4 = .ok (.iload_n 1, 1) := by decide +kernel
theorem dX4_giveUp_5 : decode cX4_giveUp 5 = .ok (.aaload, 1) := by decide +kernel
theorem dX4_giveUp_6 : decode cX4_giveUp 6 = .ok (.astore_n 2, 1) := by decide +kernel
theorem dX4_giveUp_7 : decode cX4_giveUp 7 = .ok (.aload_n 0, 1) := by decide +kernel
theorem dX4_giveUp_8 : decode cX4_giveUp 8 = .ok (.aload_n 2, 1) := by decide +kernel
theorem dX4_giveUp_9 : decode cX4_giveUp 9 = .ok (.getfield 45, 3) := by decide +kernel
theorem dX4_giveUp_12 : decode cX4_giveUp 12 = .ok (.aload_n 2, 1) := by decide +kernel
theorem dX4_giveUp_13 : decode cX4_giveUp 13 = .ok (.getfield 54, 3) := by decide +kernel
theorem dX4_giveUp_16 : decode cX4_giveUp 16 = .ok (.iload_n 1, 1) := by decide +kernel
theorem dX4_giveUp_17 : decode cX4_giveUp 17 = .ok (.invokevirtual 110, 3) := by decide +kernel
theorem dX4_giveUp_20 : decode cX4_giveUp 20 = .ok (.istore_n 3, 1) := by decide +kernel
theorem dX4_giveUp_21 : decode cX4_giveUp 21 = .ok (.aload_n 0, 1) := by decide +kernel
theorem dX4_giveUp_22 : decode cX4_giveUp 22 = .ok (.iload_n 3, 1) := by decide +kernel
theorem dX4_giveUp_23 : decode cX4_giveUp 23 = .ok (.invokevirtual 113, 3) := by decide +kernel
theorem dX4_giveUp_26 : decode cX4_giveUp 26 = .ok (.ifCond .eq 52, 3) := by decide +kernel
theorem dX4_giveUp_29 : decode cX4_giveUp 29 = .ok (.aload_n 0, 1) := by decide +kernel
theorem dX4_giveUp_30 : decode cX4_giveUp 30 = .ok (.getfield 20, 3) := by decide +kernel
theorem dX4_giveUp_33 : decode cX4_giveUp 33 = .ok (.iload_n 3, 1) := by decide +kernel
theorem dX4_giveUp_34 : decode cX4_giveUp 34 = .ok (.aaload, 1) := by decide +kernel
theorem dX4_giveUp_35 : decode cX4_giveUp 35 = .ok (.astore 4, 2) := by decide +kernel
theorem dX4_giveUp_37 : decode cX4_giveUp 37 = .ok (.aload 4, 2) := by decide +kernel
theorem dX4_giveUp_39 : decode cX4_giveUp 39 = .ok (.bipush 9, 2) := by decide +kernel
theorem dX4_giveUp_41 : decode cX4_giveUp 41 = .ok (.aload 4, 2) := by decide +kernel
theorem dX4_giveUp_43 : decode cX4_giveUp 43 = .ok (.getfield 104, 3) := by decide +kernel
theorem dX4_giveUp_46 : decode cX4_giveUp 46 = .ok (.aload_n 2, 1) := by decide +kernel
theorem dX4_giveUp_47 : decode cX4_giveUp 47 = .ok (.getfield 104, 3) := by decide +kernel
theorem dX4_giveUp_50 : decode cX4_giveUp 50 = .ok (.iadd, 1) := by decide +kernel
theorem dX4_giveUp_51 : decode cX4_giveUp 51 = .ok (.invokestatic 117, 3) := by decide +kernel
theorem dX4_giveUp_54 : decode cX4_giveUp 54 = .ok (.putfield 104, 3) := by decide +kernel
theorem dX4_giveUp_57 : decode cX4_giveUp 57 = .ok (.aload 4, 2) := by decide +kernel
theorem dX4_giveUp_59 : decode cX4_giveUp 59 = .ok (.sipush 999, 3) := by decide +kernel
theorem dX4_giveUp_62 : decode cX4_giveUp 62 = .ok (.aload 4, 2) := by decide +kernel
theorem dX4_giveUp_64 : decode cX4_giveUp 64 = .ok (.getfield 107, 3) := by decide +kernel
theorem dX4_giveUp_67 : decode cX4_giveUp 67 = .ok (.aload_n 2, 1) := by decide +kernel
theorem dX4_giveUp_68 : decode cX4_giveUp 68 = .ok (.getfield 107, 3) := by decide +kernel
theorem dX4_giveUp_71 : decode cX4_giveUp 71 = .ok (.iadd, 1) := by decide +kernel
theorem dX4_giveUp_72 : decode cX4_giveUp 72 = .ok (.invokestatic 117, 3) := by decide +kernel
theorem dX4_giveUp_75 : decode cX4_giveUp 75 = .ok (.putfield 107, 3) := by decide +kernel
theorem dX4_giveUp_78 : decode cX4_giveUp 78 = .ok (.aload_n 2, 1) := by decide +kernel
theorem dX4_giveUp_79 : decode cX4_giveUp 79 = .ok (.iconst 0, 1) := by decide +kernel
theorem dX4_giveUp_80 : decode cX4_giveUp 80 = .ok (.putfield 104, 3) := by decide +kernel
theorem dX4_giveUp_83 : decode cX4_giveUp 83 = .ok (.aload_n 2, 1) := by decide +kernel
theorem dX4_giveUp_84 : decode cX4_giveUp 84 = .ok (.iconst 0, 1) := by decide +kernel
theorem dX4_giveUp_85 : decode cX4_giveUp 85 = .ok (.putfield 107, 3) := by decide +kernel
theorem dX4_giveUp_88 : decode cX4_giveUp 88 = .ok (.return_, 1) := by decide +kernel
theorem dX4_allBread_0 : decode cX4_allBread 0 = .ok (.iconst 0, 1) := by decide +kernel
theorem dX4_allBread_1 : decode cX4_allBread 1 = .ok (.istore_n 1, 1) := by decide +kernel
theorem dX4_allBread_2 : decode cX4_allBread 2 = .ok (.iconst 0, 1) := by decide +kernel
theorem dX4_allBread_3 : decode cX4_allBread 3 = .ok (.istore_n 2, 1) := by decide +kernel
theorem dX4_allBread_4 : decode cX4_allBread 4 = .ok (.iload_n 2, 1) := by decide +kernel
theorem dX4_allBread_5 : decode cX4_allBread 5 = .ok (.aload_n 0, 1) := by decide +kernel
theorem dX4_allBread_6 : decode cX4_allBread 6 = .ok (.getfield 32, 3) := by decide +kernel
theorem dX4_allBread_9 : decode cX4_allBread 9 = .ok (.if_icmp .ge 21, 3) := by decide +kernel
theorem dX4_allBread_12 : decode cX4_allBread 12 = .ok (.iload_n 1, 1) := by decide +kernel
theorem dX4_allBread_13 : decode cX4_allBread 13 = .ok (.aload_n 0, 1) := by decide +kernel
theorem dX4_allBread_14 : decode cX4_allBread 14 = .ok (.getfield 20, 3) := by decide +kernel
theorem dX4_allBread_17 : decode cX4_allBread 17 = .ok (.iload_n 2, 1) := by decide +kernel
theorem dX4_allBread_18 : decode cX4_allBread 18 = .ok (.aaload, 1) := by decide +kernel
theorem dX4_allBread_19 : decode cX4_allBread 19 = .ok (.getfield 107, 3) := by decide +kernel
theorem dX4_allBread_22 : decode cX4_allBread 22 = .ok (.iadd, 1) := by decide +kernel
theorem dX4_allBread_23 : decode cX4_allBread 23 = .ok (.istore_n 1, 1) := by decide +kernel
theorem dX4_allBread_24 : decode cX4_allBread 24 = .ok (.iinc 2 1, 3) := by decide +kernel
theorem dX4_allBread_27 : decode cX4_allBread 27 = .ok (.goto (-23), 3) := by decide +kernel
theorem dX4_allBread_30 : decode cX4_allBread 30 = .ok (.iload_n 1, 1) := by decide +kernel
theorem dX4_allBread_31 : decode cX4_allBread 31 = .ok (.ireturn, 1) := by decide +kernel
theorem dX4_allCrews_0 : decode cX4_allCrews 0 = .ok (.iconst 0, 1) := by decide +kernel
theorem dX4_allCrews_1 : decode cX4_allCrews 1 = .ok (.istore_n 1, 1) := by decide +kernel
theorem dX4_allCrews_2 : decode cX4_allCrews 2 = .ok (.iconst 0, 1) := by decide +kernel
theorem dX4_allCrews_3 : decode cX4_allCrews 3 = .ok (.istore_n 2, 1) := by decide +kernel
theorem dX4_allCrews_4 : decode cX4_allCrews 4 = .ok (.iload_n 2, 1) := by decide +kernel
theorem dX4_allCrews_5 : decode cX4_allCrews 5 = .ok (.aload_n 0, 1) := by decide +kernel
theorem dX4_allCrews_6 : decode cX4_allCrews 6 = .ok (.getfield 32, 3) := by decide +kernel
theorem dX4_allCrews_9 : decode cX4_allCrews 9 = .ok (.if_icmp .ge 21, 3) := by decide +kernel
theorem dX4_allCrews_12 : decode cX4_allCrews 12 = .ok (.iload_n 1, 1) := by decide +kernel
theorem dX4_allCrews_13 : decode cX4_allCrews 13 = .ok (.aload_n 0, 1) := by decide +kernel
theorem dX4_allCrews_14 : decode cX4_allCrews 14 = .ok (.getfield 20, 3) := by decide +kernel
theorem dX4_allCrews_17 : decode cX4_allCrews 17 = .ok (.iload_n 2, 1) := by decide +kernel
theorem dX4_allCrews_18 : decode cX4_allCrews 18 = .ok (.aaload, 1) := by decide +kernel
theorem dX4_allCrews_19 : decode cX4_allCrews 19 = .ok (.getfield 104, 3) := by decide +kernel
theorem dX4_allCrews_22 : decode cX4_allCrews 22 = .ok (.iadd, 1) := by decide +kernel
theorem dX4_allCrews_23 : decode cX4_allCrews 23 = .ok (.istore_n 1, 1) := by decide +kernel
theorem dX4_allCrews_24 : decode cX4_allCrews 24 = .ok (.iinc 2 1, 3) := by decide +kernel
theorem dX4_allCrews_27 : decode cX4_allCrews 27 = .ok (.goto (-23), 3) := by decide +kernel
theorem dX4_allCrews_30 : decode cX4_allCrews 30 = .ok (.iload_n 1, 1) := by decide +kernel
theorem dX4_allCrews_31 : decode cX4_allCrews 31 = .ok (.ireturn, 1) := by decide +kernel
theorem dX5_init_0 : decode cX5_init 0 = .ok (.aload_n 0, 1) := by decide +kernel
theorem dX5_init_1 : decode cX5_init 1 = .ok (.invokespecial 1, 3) := by decide +kernel
theorem dX5_init_4 : decode cX5_init 4 = .ok (.return_, 1) := by decide +kernel
theorem dX5_eastward_0 : decode cX5_eastward 0 = .ok (.aload_n 1, 1) := by decide +kernel
theorem dX5_eastward_1 : decode cX5_eastward 1 = .ok (.getfield 7, 3) := by decide +kernel
theorem dX5_eastward_4 : decode cX5_eastward 4 = .ok (.ireturn, 1) := by decide +kernel
theorem dX5_northward_0 : decode cX5_northward 0 = .ok (.aload_n 1, 1) := by decide +kernel
theorem dX5_northward_1 : decode cX5_northward 1 = .ok (.getfield 13, 3) := by decide +kernel
theorem dX5_northward_4 : decode cX5_northward 4 = .ok (.ireturn, 1) := by decide +kernel
theorem dX6_init_0 : decode cX6_init 0 = .ok (.aload_n 0, 1) := by decide +kernel
theorem dX6_init_1 : decode cX6_init 1 = .ok (.invokespecial 3, 3) := by decide +kernel
theorem dX6_init_4 : decode cX6_init 4 = .ok (.aload_n 0, 1) := by decide +kernel
theorem dX6_init_5 : decode cX6_init 5 = .ok (.bipush 80, 2) := by decide +kernel
theorem dX6_init_7 : decode cX6_init 7 = .ok (.newarray .int, 2) := by decide +kernel
theorem dX6_init_9 : decode cX6_init 9 = .ok (.putfield 9, 3) := by decide +kernel
theorem dX6_init_12 : decode cX6_init 12 = .ok (.return_, 1) := by decide +kernel
theorem dX6_add_0 : decode cX6_add 0 = .ok (.aload_n 0, 1) := by decide +kernel
theorem dX6_add_1 : decode cX6_add 1 = .ok (.getfield 15, 3) := by decide +kernel
theorem dX6_add_4 : decode cX6_add 4 = .ok (.bipush 80, 2) := by decide +kernel
theorem dX6_add_6 : decode cX6_add 6 = .ok (.if_icmp .ge 23, 3) := by decide +kernel
theorem dX6_add_9 : decode cX6_add 9 = .ok (.aload_n 0, 1) := by decide +kernel
theorem dX6_add_10 : decode cX6_add 10 = .ok (.getfield 9, 3) := by decide +kernel
theorem dX6_add_13 : decode cX6_add 13 = .ok (.aload_n 0, 1) := by decide +kernel
theorem dX6_add_14 : decode cX6_add 14 = .ok (.getfield 15, 3) := by decide +kernel
theorem dX6_add_17 : decode cX6_add 17 = .ok (.iload_n 1, 1) := by decide +kernel
theorem dX6_add_18 : decode cX6_add 18 = .ok (.iastore, 1) := by decide +kernel
theorem dX6_add_19 : decode cX6_add 19 = .ok (.aload_n 0, 1) := by decide +kernel
theorem dX6_add_20 : decode cX6_add 20 = .ok (.dup, 1) := by decide +kernel
theorem dX6_add_21 : decode cX6_add 21 = .ok (.getfield 15, 3) := by decide +kernel
theorem dX6_add_24 : decode cX6_add 24 = .ok (.iconst 1, 1) := by decide +kernel
theorem dX6_add_25 : decode cX6_add 25 = .ok (.iadd, 1) := by decide +kernel
theorem dX6_add_26 : decode cX6_add 26 = .ok (.putfield 15, 3) := by decide +kernel
theorem dX6_add_29 : decode cX6_add 29 = .ok (.return_, 1) := by decide +kernel
theorem dX6_readInto_0 : decode cX6_readInto 0 = .ok (.aload_n 0, 1) := by decide +kernel
theorem dX6_readInto_1 : decode cX6_readInto 1 = .ok (.iconst 0, 1) := by decide +kernel
theorem dX6_readInto_2 : decode cX6_readInto 2 = .ok (.putfield 19, 3) := by decide +kernel
theorem dX6_readInto_5 : decode cX6_readInto 5 = .ok (.aload_n 0, 1) := by decide +kernel
theorem dX6_readInto_6 : decode cX6_readInto 6 = .ok (.iconst 0, 1) := by decide +kernel
theorem dX6_readInto_7 : decode cX6_readInto 7 = .ok (.putfield 22, 3) := by decide +kernel
theorem dX6_readInto_10 : decode cX6_readInto 10 = .ok (.iconst (-1), 1) := by decide +kernel
theorem dX6_readInto_11 : decode cX6_readInto 11 = .ok (.istore_n 2, 1) := by decide +kernel
theorem dX6_readInto_12 : decode cX6_readInto 12 = .ok (.iconst 0, 1) := by decide +kernel
theorem dX6_readInto_13 : decode cX6_readInto 13 = .ok (.istore_n 3, 1) := by decide +kernel
theorem dX6_readInto_14 : decode cX6_readInto 14 = .ok (.iload_n 3, 1) := by decide +kernel
theorem dX6_readInto_15 : decode cX6_readInto 15 = .ok (.bipush 80, 2) := by decide +kernel
theorem dX6_readInto_17 : decode cX6_readInto 17 = .ok (.if_icmp .gt 57, 3) := by decide +kernel
theorem dX6_readInto_20 : decode cX6_readInto 20 = .ok (.aload_n 0, 1) := by decide +kernel
theorem dX6_readInto_21 : decode cX6_readInto 21 = .ok (.getfield 22, 3) := by decide +kernel
theorem dX6_readInto_24 : decode cX6_readInto 24 = .ok (.ifCond .ne 50, 3) := by decide +kernel
theorem dX6_readInto_27 : decode cX6_readInto 27 = .ok (.iload_n 3, 1) := by decide +kernel
theorem dX6_readInto_28 : decode cX6_readInto 28 = .ok (.ifCond .eq 14, 3) := by decide +kernel
theorem dX6_readInto_31 : decode cX6_readInto 31 = .ok (.aload_n 0, 1) := by decide +kernel
theorem dX6_readInto_32 : decode cX6_readInto 32 = .ok (.getfield 19, 3) := by decide +kernel
theorem dX6_readInto_35 : decode cX6_readInto 35 = .ok (.aload_n 0, 1) := by decide +kernel
theorem dX6_readInto_36 : decode cX6_readInto 36 = .ok (.getfield 15, 3) := by decide +kernel
theorem dX6_readInto_39 : decode cX6_readInto 39 = .ok (.if_icmp .ge 35, 3) := by decide +kernel
theorem dX6_readInto_42 : decode cX6_readInto 42 = .ok (.aload_n 0, 1) := by decide +kernel
theorem dX6_readInto_43 : decode cX6_readInto 43 = .ok (.getfield 19, 3) := by decide +kernel
theorem dX6_readInto_46 : decode cX6_readInto 46 = .ok (.istore 4, 2) := by decide +kernel
theorem dX6_readInto_48 : decode cX6_readInto 48 = .ok (.aload_n 0, 1) := by decide +kernel
theorem dX6_readInto_49 : decode cX6_readInto 49 = .ok (.aload_n 1, 1) := by decide +kernel
theorem dX6_readInto_50 : decode cX6_readInto 50 = .ok (.invokevirtual 26, 3) := by decide +kernel
theorem dX6_readInto_53 : decode cX6_readInto 53 = .ok (.istore 5, 2) := by decide +kernel
theorem dX6_readInto_55 : decode cX6_readInto 55 = .ok (.iload 5, 2) := by decide +kernel
theorem dX6_readInto_57 : decode cX6_readInto 57 = .ok (.ifCond .ne 11, 3) := by decide +kernel
theorem dX6_readInto_60 : decode cX6_readInto 60 = .ok (.iload_n 2, 1) := by decide +kernel
theorem dX6_readInto_61 : decode cX6_readInto 61 = .ok (.iconst (-1), 1) := by decide +kernel
theorem dX6_readInto_62 : decode cX6_readInto 62 = .ok (.if_icmp .ne 6, 3) := by decide +kernel
theorem dX6_readInto_65 : decode cX6_readInto 65 = .ok (.iload 4, 2) := by decide +kernel
theorem dX6_readInto_67 : decode cX6_readInto 67 = .ok (.istore_n 2, 1) := by decide +kernel
theorem dX6_readInto_68 : decode cX6_readInto 68 = .ok (.iinc 3 1, 3) := by decide +kernel
theorem dX6_readInto_71 : decode cX6_readInto 71 = .ok (.goto (-57), 3) := by decide +kernel
theorem dX6_readInto_74 : decode cX6_readInto 74 = .ok (.aload_n 0, 1) := by decide +kernel
theorem dX6_readInto_75 : decode cX6_readInto 75 = .ok (.iconst 0, 1) := by decide +kernel
theorem dX6_readInto_76 : decode cX6_readInto 76 = .ok (.putfield 15, 3) := by decide +kernel
theorem dX6_readInto_79 : decode cX6_readInto 79 = .ok (.aload_n 0, 1) := by decide +kernel
theorem dX6_readInto_80 : decode cX6_readInto 80 = .ok (.getfield 22, 3) := by decide +kernel
theorem dX6_readInto_83 : decode cX6_readInto 83 = .ok (.ifCond .eq 12, 3) := by decide +kernel
theorem dX6_readInto_86 : decode cX6_readInto 86 = .ok (.sipush (-1000), 3) := by decide +kernel
theorem dX6_readInto_89 : decode cX6_readInto 89 = .ok (.aload_n 0, 1) := by decide +kernel
theorem dX6_readInto_90 : decode cX6_readInto 90 = .ok (.getfield 19, 3) := by decide +kernel
theorem dX6_readInto_93 : decode cX6_readInto 93 = .ok (.isub, 1) := by decide +kernel
theorem dX6_readInto_94 : decode cX6_readInto 94 = .ok (.ireturn, 1) := by decide +kernel
theorem dX6_readInto_95 : decode cX6_readInto 95 = .ok (.iload_n 2, 1) := by decide +kernel
theorem dX6_readInto_96 : decode cX6_readInto 96 = .ok (.iconst (-1), 1) := by decide +kernel
theorem dX6_readInto_97 : decode cX6_readInto 97 = .ok (.if_icmp .eq 11, 3) := by decide +kernel
theorem dX6_readInto_100 : decode cX6_readInto 100 = .ok (.sipush (-2000), 3) := by decide +kernel
theorem dX6_readInto_103 : decode cX6_readInto 103 = .ok (.iload_n 2, 1) := by decide +kernel
theorem dX6_readInto_104 : decode cX6_readInto 104 = .ok (.isub, 1) := by decide +kernel
theorem dX6_readInto_105 : decode cX6_readInto 105 = .ok (.goto 4, 3) := by decide +kernel
theorem dX6_readInto_108 : decode cX6_readInto 108 = .ok (.iload_n 3, 1) := by decide +kernel
theorem dX6_readInto_109 : decode cX6_readInto 109 = .ok (.ireturn, 1) := by decide +kernel
theorem dX6_readStatement_0 : decode cX6_readStatement 0 = .ok (.iconst 0, 1) := by decide +kernel
theorem dX6_readStatement_1 : decode cX6_readStatement 1 = .ok (.istore_n 2, 1) := by decide +kernel
theorem dX6_readStatement_2 : decode cX6_readStatement 2 = .ok (.aload_n 0, 1) := by decide +kernel
theorem dX6_readStatement_3 : decode cX6_readStatement 3 = .ok (.bipush 115, 2) := by decide +kernel
theorem dX6_readStatement_5 : decode cX6_readStatement 5 = .ok (.invokevirtual 30, 3) := by decide +kernel
theorem dX6_readStatement_8 : decode cX6_readStatement 8 = .ok (.ifCond .eq 12, 3) := by decide +kernel
theorem dX6_readStatement_11 : decode cX6_readStatement 11 = .ok (.aload_n 0, 1) := by decide +kernel
theorem dX6_readStatement_12 : decode cX6_readStatement 12 = .ok (.aload_n 1, 1) := by decide +kernel
theorem dX6_readStatement_13 : decode cX6_readStatement 13 = .ok (.invokevirtual 34, 3) := by decide +kernel
theorem dX6_readStatement_16 : decode cX6_readStatement 16 = .ok (.istore_n 2, 1) := by decide +kernel
theorem dX6_readStatement_17 : decode cX6_readStatement 17 = .ok (.goto 62, 3) := by decide +kernel
theorem dX6_readStatement_20 : decode cX6_readStatement 20 = .ok (.aload_n 0, 1) := by decide +kernel
theorem dX6_readStatement_21 : decode cX6_readStatement 21 = .ok (.bipush 119, 2) := by decide +kernel
theorem dX6_readStatement_23 : decode cX6_readStatement 23 = .ok (.invokevirtual 30, 3) := by decide +kernel
theorem dX6_readStatement_26 : decode cX6_readStatement 26 = .ok (.ifCond .eq 12, 3) := by decide +kernel
theorem dX6_readStatement_29 : decode cX6_readStatement 29 = .ok (.aload_n 0, 1) := by decide +kernel
theorem dX6_readStatement_30 : decode cX6_readStatement 30 = .ok (.aload_n 1, 1) := by decide +kernel
theorem dX6_readStatement_31 : decode cX6_readStatement 31 = .ok (.invokevirtual 37, 3) := by decide +kernel
theorem dX6_readStatement_34 : decode cX6_readStatement 34 = .ok (.istore_n 2, 1) := by decide +kernel
theorem dX6_readStatement_35 : decode cX6_readStatement 35 = .ok (.goto 44, 3) := by decide +kernel
theorem dX6_readStatement_38 : decode cX6_readStatement 38 = .ok (.aload_n 0, 1) := by decide +kernel
theorem dX6_readStatement_39 : decode cX6_readStatement 39 = .ok (.bipush 114, 2) := by decide +kernel
theorem dX6_readStatement_41 : decode cX6_readStatement 41 = .ok (.invokevirtual 30, 3) := by decide +kernel
theorem dX6_readStatement_44 : decode cX6_readStatement 44 = .ok (.ifCond .eq 12, 3) := by decide +kernel
theorem dX6_readStatement_47 : decode cX6_readStatement 47 = .ok (.aload_n 0, 1) := by decide +kernel
theorem dX6_readStatement_48 : decode cX6_readStatement 48 = .ok (.aload_n 1, 1) := by decide +kernel
theorem dX6_readStatement_49 : decode cX6_readStatement 49 = .ok (.invokevirtual 40, 3) := by decide +kernel
theorem dX6_readStatement_52 : decode cX6_readStatement 52 = .ok (.istore_n 2, 1) := by decide +kernel
theorem dX6_readStatement_53 : decode cX6_readStatement 53 = .ok (.goto 26, 3) := by decide +kernel
theorem dX6_readStatement_56 : decode cX6_readStatement 56 = .ok (.aload_n 0, 1) := by decide +kernel
theorem dX6_readStatement_57 : decode cX6_readStatement 57 = .ok (.bipush 118, 2) := by decide +kernel
theorem dX6_readStatement_59 : decode cX6_readStatement 59 = .ok (.invokevirtual 30, 3) := by decide +kernel
theorem dX6_readStatement_62 : decode cX6_readStatement 62 = .ok (.ifCond .eq 12, 3) := by decide +kernel
theorem dX6_readStatement_65 : decode cX6_readStatement 65 = .ok (.aload_n 0, 1) := by decide +kernel
theorem dX6_readStatement_66 : decode cX6_readStatement 66 = .ok (.aload_n 1, 1) := by decide +kernel
theorem dX6_readStatement_67 : decode cX6_readStatement 67 = .ok (.invokevirtual 43, 3) := by decide +kernel
theorem dX6_readStatement_70 : decode cX6_readStatement 70 = .ok (.istore_n 2, 1) := by decide +kernel
theorem dX6_readStatement_71 : decode cX6_readStatement 71 = .ok (.goto 8, 3) := by decide +kernel
theorem dX6_readStatement_74 : decode cX6_readStatement 74 = .ok (.aload_n 0, 1) := by decide +kernel
theorem dX6_readStatement_75 : decode cX6_readStatement 75 = .ok (.iconst 1, 1) := by decide +kernel
theorem dX6_readStatement_76 : decode cX6_readStatement 76 = .ok (.putfield 22, 3) := by decide +kernel
theorem dX6_readStatement_79 : decode cX6_readStatement 79 = .ok (.aload_n 0, 1) := by decide +kernel
theorem dX6_readStatement_80 : decode cX6_readStatement 80 = .ok (.bipush 59, 2) := by decide +kernel
theorem dX6_readStatement_82 : decode cX6_readStatement 82 = .ok (.invokevirtual 46, 3) := by decide +kernel
theorem dX6_readStatement_85 : decode cX6_readStatement 85 = .ok (.iload_n 2, 1) := by decide +kernel
theorem dX6_readStatement_86 : decode cX6_readStatement 86 = .ok (.ireturn, 1) := by decide +kernel
theorem dX6_readShip_0 : decode cX6_readShip 0 = .ok (.aload_n 0, 1) := by decide +kernel
theorem dX6_readShip_1 : decode cX6_readShip 1 = .ok (.iconst 1, 1) := by decide +kernel
theorem dX6_readShip_2 : decode cX6_readShip 2 = .ok (.invokevirtual 50, 3) := by decide +kernel
theorem dX6_readShip_5 : decode cX6_readShip 5 = .ok (.istore_n 2, 1) := by decide +kernel
theorem dX6_readShip_6 : decode cX6_readShip 6 = .ok (.aload_n 0, 1) := by decide +kernel
theorem dX6_readShip_7 : decode cX6_readShip 7 = .ok (.iconst 1, 1) := by decide +kernel
theorem dX6_readShip_8 : decode cX6_readShip 8 = .ok (.invokevirtual 50, 3) := by decide +kernel
theorem dX6_readShip_11 : decode cX6_readShip 11 = .ok (.istore_n 3, 1) := by decide +kernel
theorem dX6_readShip_12 : decode cX6_readShip 12 = .ok (.aload_n 0, 1) := by decide +kernel
theorem dX6_readShip_13 : decode cX6_readShip 13 = .ok (.iconst 1, 1) := by decide +kernel
theorem dX6_readShip_14 : decode cX6_readShip 14 = .ok (.invokevirtual 50, 3) := by decide +kernel
theorem dX6_readShip_17 : decode cX6_readShip 17 = .ok (.istore 4, 2) := by decide +kernel
theorem dX6_readShip_19 : decode cX6_readShip 19 = .ok (.aload_n 0, 1) := by decide +kernel
theorem dX6_readShip_20 : decode cX6_readShip 20 = .ok (.iconst 3, 1) := by decide +kernel
theorem dX6_readShip_21 : decode cX6_readShip 21 = .ok (.invokevirtual 50, 3) := by decide +kernel
theorem dX6_readShip_24 : decode cX6_readShip 24 = .ok (.istore 5, 2) := by decide +kernel
theorem dX6_readShip_26 : decode cX6_readShip 26 = .ok (.aload_n 0, 1) := by decide +kernel
theorem dX6_readShip_27 : decode cX6_readShip 27 = .ok (.bipush 44, 2) := by decide +kernel
theorem dX6_readShip_29 : decode cX6_readShip 29 = .ok (.invokevirtual 46, 3) := by decide +kernel
theorem dX6_readShip_32 : decode cX6_readShip 32 = .ok (.aload_n 0, 1) := by decide +kernel
theorem dX6_readShip_33 : decode cX6_readShip 33 = .ok (.iconst 2, 1) := by decide +kernel
theorem dX6_readShip_34 : decode cX6_readShip 34 = .ok (.invokevirtual 54, 3) := by decide +kernel
theorem dX6_readShip_37 : decode cX6_readShip 37 = .ok (.istore 6, 2) := by decide +kernel
theorem dX6_readShip_39 : decode cX6_readShip 39 = .ok (.aload_n 0, 1) := by decide +kernel
theorem dX6_readShip_40 : decode cX6_readShip 40 = .ok (.bipush 44, 2) := by decide +kernel
theorem dX6_readShip_42 : decode cX6_readShip 42 = .ok (.invokevirtual 46, 3) := by decide +kernel
theorem dX6_readShip_45 : decode cX6_readShip 45 = .ok (.aload_n 0, 1) := by decide +kernel
theorem dX6_readShip_46 : decode cX6_readShip 46 = .ok (.iconst 2, 1) := by decide +kernel
theorem dX6_readShip_47 : decode cX6_readShip 47 = .ok (.invokevirtual 54, 3) := by decide +kernel
theorem dX6_readShip_50 : decode cX6_readShip 50 = .ok (.istore 7, 2) := by decide +kernel
theorem dX6_readShip_52 : decode cX6_readShip 52 = .ok (.iload_n 2, 1) := by decide +kernel
theorem dX6_readShip_53 : decode cX6_readShip 53 = .ok (.bipush 6, 2) := by decide +kernel
theorem dX6_readShip_55 : decode cX6_readShip 55 = .ok (.if_icmp .ge 12, 3) := by decide +kernel
theorem dX6_readShip_58 : decode cX6_readShip 58 = .ok (.aload_n 1, 1) := by decide +kernel
theorem dX6_readShip_59 : decode cX6_readShip 59 = .ok (.getfield 57, 3) := by decide +kernel
theorem dX6_readShip_62 : decode cX6_readShip 62 = .ok (.bipush 6, 2) := by decide +kernel
theorem dX6_readShip_64 : decode cX6_readShip 64 = .ok (.if_icmp .lt 5, 3) := by decide +kernel
theorem dX6_readShip_67 : decode cX6_readShip 67 = .ok (.iconst 0, 1) := by decide +kernel
theorem dX6_readShip_68 : decode cX6_readShip 68 = .ok (.ireturn, 1) := by decide +kernel
theorem dX6_readShip_69 : decode cX6_readShip 69 = .ok (.aload_n 1, 1) := by decide +kernel
theorem dX6_readShip_70 : decode cX6_readShip 70 = .ok (.getfield 62, 3) := by decide +kernel
theorem dX6_readShip_73 : decode cX6_readShip 73 = .ok (.aload_n 1, 1) := by decide +kernel
theorem dX6_readShip_74 : decode cX6_readShip 74 = .ok (.getfield 57, 3) := by decide +kernel
theorem dX6_readShip_77 : decode cX6_readShip 77 = .ok (.aaload, 1) := by decide +kernel
theorem dX6_readShip_78 : decode cX6_readShip 78 = .ok (.astore 8, 2) := by decide +kernel
theorem dX6_readShip_80 : decode cX6_readShip 80 = .ok (.aload 8, 2) := by decide +kernel
theorem dX6_readShip_82 : decode cX6_readShip 82 = .ok (.iload_n 2, 1) := by decide +kernel
theorem dX6_readShip_83 : decode cX6_readShip 83 = .ok (.putfield 66, 3) := by decide +kernel
theorem dX6_readShip_86 : decode cX6_readShip 86 = .ok (.aload 8, 2) := by decide +kernel
theorem dX6_readShip_88 : decode cX6_readShip 88 = .ok (.iload_n 3, 1) := by decide +kernel
theorem dX6_readShip_89 : decode cX6_readShip 89 = .ok (.putfield 71, 3) := by decide +kernel
theorem dX6_readShip_92 : decode cX6_readShip 92 = .ok (.aload 8, 2) := by decide +kernel
theorem dX6_readShip_94 : decode cX6_readShip 94 = .ok (.iload 4, 2) := by decide +kernel
theorem dX6_readShip_96 : decode cX6_readShip 96 = .ok (.putfield 74, 3) := by decide +kernel
theorem dX6_readShip_99 : decode cX6_readShip 99 = .ok (.aload 8, 2) := by decide +kernel
theorem dX6_readShip_101 : decode cX6_readShip 101 = .ok (.iload 5, 2) := by decide +kernel
theorem dX6_readShip_103 : decode cX6_readShip 103 = .ok (.putfield 77, 3) := by decide +kernel
theorem dX6_readShip_106 : decode cX6_readShip 106 = .ok (.aload 8, 2) := by decide +kernel
theorem dX6_readShip_108 : decode cX6_readShip 108 = .ok (.iload 6, 2) := by decide +kernel
theorem dX6_readShip_110 : decode cX6_readShip 110 = .ok (.putfield 80, 3) := by decide +kernel
theorem dX6_readShip_113 : decode cX6_readShip 113 = .ok (.aload 8, 2) := by decide +kernel
theorem dX6_readShip_115 : decode cX6_readShip 115 = .ok (.iload 7, 2) := by decide +kernel
theorem dX6_readShip_117 : decode cX6_readShip 117 = .ok (.putfield 83, 3) := by decide +kernel
theorem dX6_readShip_120 : decode cX6_readShip 120 = .ok (.aload_n 1, 1) := by decide +kernel
theorem dX6_readShip_121 : decode cX6_readShip 121 = .ok (.dup, 1) := by decide +kernel
theorem dX6_readShip_122 : decode cX6_readShip 122 = .ok (.getfield 57, 3) := by decide +kernel
theorem dX6_readShip_125 : decode cX6_readShip 125 = .ok (.iconst 1, 1) := by decide +kernel
theorem dX6_readShip_126 : decode cX6_readShip 126 = .ok (.iadd, 1) := by decide +kernel
theorem dX6_readShip_127 : decode cX6_readShip 127 = .ok (.putfield 57, 3) := by decide +kernel
theorem dX6_readShip_130 : decode cX6_readShip 130 = .ok (.iconst 1, 1) := by decide +kernel
theorem dX6_readShip_131 : decode cX6_readShip 131 = .ok (.ireturn, 1) := by decide +kernel
theorem dX6_readWind_0 : decode cX6_readWind 0 = .ok (.aload_n 0, 1) := by decide +kernel
theorem dX6_readWind_1 : decode cX6_readWind 1 = .ok (.iconst 1, 1) := by decide +kernel
theorem dX6_readWind_2 : decode cX6_readWind 2 = .ok (.invokevirtual 50, 3) := by decide +kernel
theorem dX6_readWind_5 : decode cX6_readWind 5 = .ok (.istore_n 2, 1) := by decide +kernel
theorem dX6_readWind_6 : decode cX6_readWind 6 = .ok (.aload_n 0, 1) := by decide +kernel
theorem dX6_readWind_7 : decode cX6_readWind 7 = .ok (.iconst 1, 1) := by decide +kernel
theorem dX6_readWind_8 : decode cX6_readWind 8 = .ok (.invokevirtual 54, 3) := by decide +kernel
theorem dX6_readWind_11 : decode cX6_readWind 11 = .ok (.istore_n 3, 1) := by decide +kernel
theorem dX6_readWind_12 : decode cX6_readWind 12 = .ok (.aload_n 0, 1) := by decide +kernel
theorem dX6_readWind_13 : decode cX6_readWind 13 = .ok (.iconst 1, 1) := by decide +kernel
theorem dX6_readWind_14 : decode cX6_readWind 14 = .ok (.invokevirtual 54, 3) := by decide +kernel
theorem dX6_readWind_17 : decode cX6_readWind 17 = .ok (.istore 4, 2) := by decide +kernel
theorem dX6_readWind_19 : decode cX6_readWind 19 = .ok (.iload_n 2, 1) := by decide +kernel
theorem dX6_readWind_20 : decode cX6_readWind 20 = .ok (.bipush 7, 2) := by decide +kernel
theorem dX6_readWind_22 : decode cX6_readWind 22 = .ok (.if_icmp .ge 20, 3) := by decide +kernel
theorem dX6_readWind_25 : decode cX6_readWind 25 = .ok (.iload_n 3, 1) := by decide +kernel
theorem dX6_readWind_26 : decode cX6_readWind 26 = .ok (.invokestatic 86, 3) := by decide +kernel
theorem dX6_readWind_29 : decode cX6_readWind 29 = .ok (.iconst 4, 1) := by decide +kernel
theorem dX6_readWind_30 : decode cX6_readWind 30 = .ok (.if_icmp .gt 12, 3) := by decide +kernel
theorem dX6_readWind_33 : decode cX6_readWind 33 = .ok (.iload 4, 2) := by decide +kernel
theorem dX6_readWind_35 : decode cX6_readWind 35 = .ok (.invokestatic 86, 3) := by decide +kernel
theorem dX6_readWind_38 : decode cX6_readWind 38 = .ok (.iconst 4, 1) := by decide +kernel
theorem dX6_readWind_39 : decode cX6_readWind 39 = .ok (.if_icmp .le 5, 3) := by decide +kernel
theorem dX6_readWind_42 : decode cX6_readWind 42 = .ok (.iconst 0, 1) := by decide +kernel
theorem dX6_readWind_43 : decode cX6_readWind 43 = .ok (.ireturn, 1) := by decide +kernel
theorem dX6_readWind_44 : decode cX6_readWind 44 = .ok (.aload_n 1, 1) := by decide +kernel
theorem dX6_readWind_45 : decode cX6_readWind 45 = .ok (.getfield 91, 3) := by decide +kernel
theorem dX6_readWind_48 : decode cX6_readWind 48 = .ok (.iload_n 2, 1) := by decide +kernel
theorem dX6_readWind_49 : decode cX6_readWind 49 = .ok (.iload_n 3, 1) := by decide +kernel
theorem dX6_readWind_50 : decode cX6_readWind 50 = .ok (.iastore, 1) := by decide +kernel
theorem dX6_readWind_51 : decode cX6_readWind 51 = .ok (.aload_n 1, 1) := by decide +kernel
theorem dX6_readWind_52 : decode cX6_readWind 52 = .ok (.getfield 94, 3) := by decide +kernel
theorem dX6_readWind_55 : decode cX6_readWind 55 = .ok (.iload_n 2, 1) := by decide +kernel
theorem dX6_readWind_56 : decode cX6_readWind 56 = .ok (.iload 4, 2) := by decide +kernel
theorem dX6_readWind_58 : decode cX6_readWind 58 = .ok (.iastore, 1) := by decide +kernel
theorem dX6_readWind_59 : decode cX6_readWind 59 = .ok (.iconst 1, 1) := by decide +kernel
theorem dX6_readWind_60 : decode cX6_readWind 60 = .ok (.ireturn, 1) := by decide +kernel
theorem dX6_readReach_0 : decode cX6_readReach 0 = .ok (.aload_n 1, 1) := by decide +kernel
theorem dX6_readReach_1 : decode cX6_readReach 1 = .ok (.aload_n 0, 1) := by decide +kernel
theorem dX6_readReach_2 : decode cX6_readReach 2 = .ok (.iconst 2, 1) := by decide +kernel
theorem dX6_readReach_3 : decode cX6_readReach 3 = .ok (.invokevirtual 50, 3) := by decide +kernel
theorem dX6_readReach_6 : decode cX6_readReach 6 = .ok (.putfield 97, 3) := by decide +kernel
theorem dX6_readReach_9 : decode cX6_readReach 9 = .ok (.aload_n 1, 1) := by decide +kernel
theorem dX6_readReach_10 : decode cX6_readReach 10 = .ok (.getfield 97, 3) := by decide +kernel
theorem dX6_readReach_13 : decode cX6_readReach 13 = .ok (.iconst 1, 1) := by decide +kernel
theorem dX6_readReach_14 : decode cX6_readReach 14 = .ok (.if_icmp .lt 16, 3) := by decide +kernel
theorem dX6_readReach_17 : decode cX6_readReach 17 = .ok (.aload_n 1, 1) := by decide +kernel
theorem dX6_readReach_18 : decode cX6_readReach 18 = .ok (.getfield 97, 3) := by decide +kernel
theorem dX6_readReach_21 : decode cX6_readReach 21 = .ok (.bipush 40, 2) := by decide +kernel
theorem dX6_readReach_23 : decode cX6_readReach 23 = .ok (.if_icmp .gt 7, 3) := by decide +kernel
theorem dX6_readReach_26 : decode cX6_readReach 26 = .ok (.iconst 1, 1) := by decide +kernel
theorem dX6_readReach_27 : decode cX6_readReach 27 = .ok (.goto 4, 3) := by decide +kernel
theorem dX6_readReach_30 : decode cX6_readReach 30 = .ok (.iconst 0, 1) := by decide +kernel
theorem dX6_readReach_31 : decode cX6_readReach 31 = .ok (.ireturn, 1) := by decide +kernel
theorem dX6_readSight_0 : decode cX6_readSight 0 = .ok (.aload_n 1, 1) := by decide +kernel
theorem dX6_readSight_1 : decode cX6_readSight 1 = .ok (.aload_n 0, 1) := by decide +kernel
theorem dX6_readSight_2 : decode cX6_readSight 2 = .ok (.iconst 2, 1) := by decide +kernel
theorem dX6_readSight_3 : decode cX6_readSight 3 = .ok (.invokevirtual 50, 3) := by decide +kernel
theorem dX6_readSight_6 : decode cX6_readSight 6 = .ok (.putfield 100, 3) := by decide +kernel
theorem dX6_readSight_9 : decode cX6_readSight 9 = .ok (.aload_n 1, 1) := by decide +kernel
theorem dX6_readSight_10 : decode cX6_readSight 10 = .ok (.getfield 100, 3) := by decide +kernel
theorem dX6_readSight_13 : decode cX6_readSight 13 = .ok (.iconst 1, 1) := by decide +kernel
theorem dX6_readSight_14 : decode cX6_readSight 14 = .ok (.if_icmp .lt 16, 3) := by decide +kernel
theorem dX6_readSight_17 : decode cX6_readSight 17 = .ok (.aload_n 1, 1) := by decide +kernel
theorem dX6_readSight_18 : decode cX6_readSight 18 = .ok (.getfield 100, 3) := by decide +kernel
theorem dX6_readSight_21 : decode cX6_readSight 21 = .ok (.bipush 99, 2) := by decide +kernel
theorem dX6_readSight_23 : decode cX6_readSight 23 = .ok (.if_icmp .gt 7, 3) := by decide +kernel
theorem dX6_readSight_26 : decode cX6_readSight 26 = .ok (.iconst 1, 1) := by decide +kernel
theorem dX6_readSight_27 : decode cX6_readSight 27 = .ok (.goto 4, 3) := by decide +kernel
theorem dX6_readSight_30 : decode cX6_readSight 30 = .ok (.iconst 0, 1) := by decide +kernel
theorem dX6_readSight_31 : decode cX6_readSight 31 = .ok (.ireturn, 1) := by decide +kernel
theorem dX6_take_0 : decode cX6_take 0 = .ok (.aload_n 0, 1) := by decide +kernel
theorem dX6_take_1 : decode cX6_take 1 = .ok (.getfield 22, 3) := by decide +kernel
theorem dX6_take_4 : decode cX6_take 4 = .ok (.ifCond .ne 31, 3) := by decide +kernel
theorem dX6_take_7 : decode cX6_take 7 = .ok (.aload_n 0, 1) := by decide +kernel
theorem dX6_take_8 : decode cX6_take 8 = .ok (.getfield 19, 3) := by decide +kernel
theorem dX6_take_11 : decode cX6_take 11 = .ok (.aload_n 0, 1) := by decide +kernel
theorem dX6_take_12 : decode cX6_take 12 = .ok (.getfield 15, 3) := by decide +kernel
theorem dX6_take_15 : decode cX6_take 15 = .ok (.if_icmp .ge 20, 3) := by decide +kernel
theorem dX6_take_18 : decode cX6_take 18 = .ok (.aload_n 0, 1) := by decide +kernel
theorem dX6_take_19 : decode cX6_take 19 = .ok (.getfield 9, 3) := by decide +kernel
theorem dX6_take_22 : decode cX6_take 22 = .ok (.aload_n 0, 1) := by decide +kernel
theorem dX6_take_23 : decode cX6_take 23 = .ok (.getfield 19, 3) := by decide +kernel
theorem dX6_take_26 : decode cX6_take 26 = .ok (.iaload, 1) := by decide +kernel
theorem dX6_take_27 : decode cX6_take 27 = .ok (.iload_n 1, 1) := by decide +kernel
theorem dX6_take_28 : decode cX6_take 28 = .ok (.if_icmp .ne 7, 3) := by decide +kernel
theorem dX6_take_31 : decode cX6_take 31 = .ok (.iconst 1, 1) := by decide +kernel
theorem dX6_take_32 : decode cX6_take 32 = .ok (.goto 4, 3) := by decide +kernel
theorem dX6_take_35 : decode cX6_take 35 = .ok (.iconst 0, 1) := by decide +kernel
theorem dX6_take_36 : decode cX6_take 36 = .ok (.istore_n 2, 1) := by decide +kernel
theorem dX6_take_37 : decode cX6_take 37 = .ok (.iload_n 2, 1) := by decide +kernel
theorem dX6_take_38 : decode cX6_take 38 = .ok (.ifCond .eq 13, 3) := by decide +kernel
theorem dX6_take_41 : decode cX6_take 41 = .ok (.aload_n 0, 1) := by decide +kernel
theorem dX6_take_42 : decode cX6_take 42 = .ok (.dup, 1) := by decide +kernel
theorem dX6_take_43 : decode cX6_take 43 = .ok (.getfield 19, 3) := by decide +kernel
theorem dX6_take_46 : decode cX6_take 46 = .ok (.iconst 1, 1) := by decide +kernel
theorem dX6_take_47 : decode cX6_take 47 = .ok (.iadd, 1) := by decide +kernel
theorem dX6_take_48 : decode cX6_take 48 = .ok (.putfield 19, 3) := by decide +kernel
theorem dX6_take_51 : decode cX6_take 51 = .ok (.iload_n 2, 1) := by decide +kernel
theorem dX6_take_52 : decode cX6_take 52 = .ok (.ireturn, 1) := by decide +kernel
theorem dX6_need_0 : decode cX6_need 0 = .ok (.aload_n 0, 1) := by decide +kernel
theorem dX6_need_1 : decode cX6_need 1 = .ok (.iload_n 1, 1) := by decide +kernel
theorem dX6_need_2 : decode cX6_need 2 = .ok (.invokevirtual 30, 3) := by decide +kernel
theorem dX6_need_5 : decode cX6_need 5 = .ok (.ifCond .ne 8, 3) := by decide +kernel
theorem dX6_need_8 : decode cX6_need 8 = .ok (.aload_n 0, 1) := by decide +kernel
theorem dX6_need_9 : decode cX6_need 9 = .ok (.iconst 1, 1) := by decide +kernel
theorem dX6_need_10 : decode cX6_need 10 = .ok (.putfield 22, 3) := by decide +kernel
theorem dX6_need_13 : decode cX6_need 13 = .ok (.return_, 1) := by decide +kernel
theorem dX6_readSigned_0 : decode cX6_readSigned 0 = .ok (.aload_n 0, 1) := by decide +kernel
theorem dX6_readSigned_1 : decode cX6_readSigned 1 = .ok (.bipush 45, 2) := by decide +kernel
theorem dX6_readSigned_3 : decode cX6_readSigned 3 = .ok (.invokevirtual 30, 3) := by decide +kernel
theorem dX6_readSigned_6 : decode cX6_readSigned 6 = .ok (.ifCond .eq 12, 3) := by decide +kernel
theorem dX6_readSigned_9 : decode cX6_readSigned 9 = .ok (.aload_n 0, 1) := by decide +kernel
theorem dX6_readSigned_10 : decode cX6_readSigned 10 = .ok (.iload_n 1, 1) := by decide +kernel
theorem dX6_readSigned_11 : decode cX6_readSigned 11 = .ok (.invokevirtual 50, 3) := by decide +kernel
theorem dX6_readSigned_14 : decode cX6_readSigned 14 = .ok (.ineg, 1) := by decide +kernel
theorem dX6_readSigned_15 : decode cX6_readSigned 15 = .ok (.goto 8, 3) := by decide +kernel
theorem dX6_readSigned_18 : decode cX6_readSigned 18 = .ok (.aload_n 0, 1) := by decide +kernel
theorem dX6_readSigned_19 : decode cX6_readSigned 19 = .ok (.iload_n 1, 1) := by decide +kernel
theorem dX6_readSigned_20 : decode cX6_readSigned 20 = .ok (.invokevirtual 50, 3) := by decide +kernel
theorem dX6_readSigned_23 : decode cX6_readSigned 23 = .ok (.ireturn, 1) := by decide +kernel
theorem dX6_readNumber_0 : decode cX6_readNumber 0 = .ok (.iconst 0, 1) := by decide +kernel
theorem dX6_readNumber_1 : decode cX6_readNumber 1 = .ok (.istore_n 2, 1) := by decide +kernel
theorem dX6_readNumber_2 : decode cX6_readNumber 2 = .ok (.iconst 0, 1) := by decide +kernel
theorem dX6_readNumber_3 : decode cX6_readNumber 3 = .ok (.istore_n 3, 1) := by decide +kernel
theorem dX6_readNumber_4 : decode cX6_readNumber 4 = .ok (.iload_n 3, 1) := by decide +kernel
theorem dX6_readNumber_5 : decode cX6_readNumber 5 = .ok (.iload_n 1, 1) := by decide +kernel
theorem dX6_readNumber_6 : decode cX6_readNumber 6 = .ok (.if_icmp .ge 44, 3) := by decide +kernel
theorem dX6_readNumber_9 : decode cX6_readNumber 9 = .ok (.aload_n 0, 1) := by decide +kernel
theorem dX6_readNumber_10 : decode cX6_readNumber 10 = .ok (.invokevirtual 103, 3) := by decide +kernel
theorem dX6_readNumber_13 : decode cX6_readNumber 13 = .ok (.ifCond .eq 37, 3) := by decide +kernel
theorem dX6_readNumber_16 : decode cX6_readNumber 16 = .ok (.bipush 10, 2) := by decide +kernel
theorem dX6_readNumber_18 : decode cX6_readNumber 18 = .ok (.iload_n 2, 1) := by decide +kernel
theorem dX6_readNumber_19 : decode cX6_readNumber 19 = .ok (.imul, 1) := by decide +kernel
theorem dX6_readNumber_20 : decode cX6_readNumber 20 = .ok (.aload_n 0, 1) := by decide +kernel
theorem dX6_readNumber_21 : decode cX6_readNumber 21 = .ok (.getfield 9, 3) := by decide +kernel
theorem dX6_readNumber_24 : decode cX6_readNumber 24 = .ok (.aload_n 0, 1) := by decide +kernel
theorem dX6_readNumber_25 : decode cX6_readNumber 25 = .ok (.getfield 19, 3) := by decide +kernel
theorem dX6_readNumber_28 : decode cX6_readNumber 28 = .ok (.iaload, 1) := by decide +kernel
theorem dX6_readNumber_29 : decode cX6_readNumber 29 = .ok (.iadd, 1) := by decide +kernel
theorem dX6_readNumber_30 : decode cX6_readNumber 30 = .ok (.bipush 48, 2) := by decide +kernel
theorem dX6_readNumber_32 : decode cX6_readNumber 32 = .ok (.isub, 1) := by decide +kernel
theorem dX6_readNumber_33 : decode cX6_readNumber 33 = .ok (.istore_n 2, 1) := by decide +kernel
theorem dX6_readNumber_34 : decode cX6_readNumber 34 = .ok (.aload_n 0, 1) := by decide +kernel
theorem dX6_readNumber_35 : decode cX6_readNumber 35 = .ok (.dup, 1) := by decide +kernel
theorem dX6_readNumber_36 : decode cX6_readNumber 36 = .ok (.getfield 19, 3) := by decide +kernel
theorem dX6_readNumber_39 : decode cX6_readNumber 39 = .ok (.iconst 1, 1) := by decide +kernel
theorem dX6_readNumber_40 : decode cX6_readNumber 40 = .ok (.iadd, 1) := by decide +kernel
theorem dX6_readNumber_41 : decode cX6_readNumber 41 = .ok (.putfield 19, 3) := by decide +kernel
theorem dX6_readNumber_44 : decode cX6_readNumber 44 = .ok (.iinc 3 1, 3) := by decide +kernel
theorem dX6_readNumber_47 : decode cX6_readNumber 47 = .ok (.goto (-43), 3) := by decide +kernel
theorem dX6_readNumber_50 : decode cX6_readNumber 50 = .ok (.iload_n 3, 1) := by decide +kernel
theorem dX6_readNumber_51 : decode cX6_readNumber 51 = .ok (.ifCond .ne 8, 3) := by decide +kernel
theorem dX6_readNumber_54 : decode cX6_readNumber 54 = .ok (.aload_n 0, 1) := by decide +kernel
theorem dX6_readNumber_55 : decode cX6_readNumber 55 = .ok (.iconst 1, 1) := by decide +kernel
theorem dX6_readNumber_56 : decode cX6_readNumber 56 = .ok (.putfield 22, 3) := by decide +kernel
theorem dX6_readNumber_59 : decode cX6_readNumber 59 = .ok (.iload_n 2, 1) := by decide +kernel
theorem dX6_readNumber_60 : decode cX6_readNumber 60 = .ok (.ireturn, 1) := by decide +kernel
theorem dX6_isDigitNext_0 : decode cX6_isDigitNext 0 = .ok (.aload_n 0, 1) := by decide +kernel
theorem dX6_isDigitNext_1 : decode cX6_isDigitNext 1 = .ok (.getfield 22, 3) := by decide +kernel
theorem dX6_isDigitNext_4 : decode cX6_isDigitNext 4 = .ok (.ifCond .ne 46, 3) := by decide +kernel
theorem dX6_isDigitNext_7 : decode cX6_isDigitNext 7 = .ok (.aload_n 0, 1) := by decide +kernel
theorem dX6_isDigitNext_8 : decode cX6_isDigitNext 8 = .ok (.getfield 19, 3) := by decide +kernel
theorem dX6_isDigitNext_11 : decode cX6_isDigitNext 11 = .ok (.aload_n 0, 1) := by decide +kernel
theorem dX6_isDigitNext_12 : decode cX6_isDigitNext 12 = .ok (.getfield 15, 3) := by decide +kernel
theorem dX6_isDigitNext_15 : decode cX6_isDigitNext 15 = .ok (.if_icmp .ge 35, 3) := by decide +kernel
theorem dX6_isDigitNext_18 : decode cX6_isDigitNext 18 = .ok (.aload_n 0, 1) := by decide +kernel
theorem dX6_isDigitNext_19 : decode cX6_isDigitNext 19 = .ok (.getfield 9, 3) := by decide +kernel
theorem dX6_isDigitNext_22 : decode cX6_isDigitNext 22 = .ok (.aload_n 0, 1) := by decide +kernel
theorem dX6_isDigitNext_23 : decode cX6_isDigitNext 23 = .ok (.getfield 19, 3) := by decide +kernel
theorem dX6_isDigitNext_26 : decode cX6_isDigitNext 26 = .ok (.iaload, 1) := by decide +kernel
theorem dX6_isDigitNext_27 : decode cX6_isDigitNext 27 = .ok (.bipush 48, 2) := by decide +kernel
theorem dX6_isDigitNext_29 : decode cX6_isDigitNext 29 = .ok (.if_icmp .lt 21, 3) := by decide +kernel
theorem dX6_isDigitNext_32 : decode cX6_isDigitNext 32 = .ok (.aload_n 0, 1) := by decide +kernel
theorem dX6_isDigitNext_33 : decode cX6_isDigitNext 33 = .ok (.getfield 9, 3) := by decide +kernel
theorem dX6_isDigitNext_36 : decode cX6_isDigitNext 36 = .ok (.aload_n 0, 1) := by decide +kernel
theorem dX6_isDigitNext_37 : decode cX6_isDigitNext 37 = .ok (.getfield 19, 3) := by decide +kernel
theorem dX6_isDigitNext_40 : decode cX6_isDigitNext 40 = .ok (.iaload, 1) := by decide +kernel
theorem dX6_isDigitNext_41 : decode cX6_isDigitNext 41 = .ok (.bipush 57, 2) := by decide +kernel
theorem dX6_isDigitNext_43 : decode cX6_isDigitNext 43 = .ok (.if_icmp .gt 7, 3) := by decide +kernel
theorem dX6_isDigitNext_46 : decode cX6_isDigitNext 46 = .ok (.iconst 1, 1) := by decide +kernel
theorem dX6_isDigitNext_47 : decode cX6_isDigitNext 47 = .ok (.goto 4, 3) := by decide +kernel
theorem dX6_isDigitNext_50 : decode cX6_isDigitNext 50 = .ok (.iconst 0, 1) := by decide +kernel
theorem dX6_isDigitNext_51 : decode cX6_isDigitNext 51 = .ok (.ireturn, 1) := by decide +kernel
theorem dX7_init_0 : decode cX7_init 0 = .ok (.aload_n 0, 1) := by decide +kernel
theorem dX7_init_1 : decode cX7_init 1 = .ok (.invokespecial 1, 3) := by decide +kernel
theorem dX7_init_4 : decode cX7_init 4 = .ok (.return_, 1) := by decide +kernel
theorem dX7_drawBelow_0 : decode cX7_drawBelow 0 = .ok (.aload_n 0, 1) := by decide +kernel
theorem dX7_drawBelow_1 : decode cX7_drawBelow 1 = .ok (.aload_n 0, 1) := by decide +kernel
theorem dX7_drawBelow_2 : decode cX7_drawBelow 2 = .ok (.getfield 7, 3) := by decide +kernel
theorem dX7_drawBelow_5 : decode cX7_drawBelow 5 = .ok (.ldc 13, 2) := by decide +kernel
theorem dX7_drawBelow_7 : decode cX7_drawBelow 7 = .ok (.imul, 1) := by decide +kernel
theorem dX7_drawBelow_8 : decode cX7_drawBelow 8 = .ok (.sipush 12345, 3) := by decide +kernel
theorem dX7_drawBelow_11 : decode cX7_drawBelow 11 = .ok (.iadd, 1) := by decide +kernel
theorem dX7_drawBelow_12 : decode cX7_drawBelow 12 = .ok (.putfield 7, 3) := by decide +kernel
theorem dX7_drawBelow_15 : decode cX7_drawBelow 15 = .ok (.iload_n 1, 1) := by decide +kernel
theorem dX7_drawBelow_16 : decode cX7_drawBelow 16 = .ok (.ifCond .le 18, 3) := by decide +kernel
theorem dX7_drawBelow_19 : decode cX7_drawBelow 19 = .ok (.aload_n 0, 1) := by decide +kernel
theorem dX7_drawBelow_20 : decode cX7_drawBelow 20 = .ok (.getfield 7, 3) := by decide +kernel
theorem dX7_drawBelow_23 : decode cX7_drawBelow 23 = .ok (.ldc 14, 2) := by decide +kernel
theorem dX7_drawBelow_25 : decode cX7_drawBelow 25 = .ok (.iand, 1) := by decide +kernel
theorem dX7_drawBelow_26 : decode cX7_drawBelow 26 = .ok (.ldc 15, 2) := by decide +kernel
theorem dX7_drawBelow_28 : decode cX7_drawBelow 28 = .ok (.idiv, 1) := by decide +kernel
theorem dX7_drawBelow_29 : decode cX7_drawBelow 29 = .ok (.iload_n 1, 1) := by decide +kernel
theorem dX7_drawBelow_30 : decode cX7_drawBelow 30 = .ok (.irem, 1) := by decide +kernel
theorem dX7_drawBelow_31 : decode cX7_drawBelow 31 = .ok (.goto 4, 3) := by decide +kernel
theorem dX7_drawBelow_34 : decode cX7_drawBelow 34 = .ok (.iconst 0, 1) := by decide +kernel
theorem dX7_drawBelow_35 : decode cX7_drawBelow 35 = .ok (.ireturn, 1) := by decide +kernel
theorem dX8_init_0 : decode cX8_init 0 = .ok (.aload_n 0, 1) := by decide +kernel
theorem dX8_init_1 : decode cX8_init 1 = .ok (.invokespecial 1, 3) := by decide +kernel
theorem dX8_init_4 : decode cX8_init 4 = .ok (.return_, 1) := by decide +kernel
theorem dX8_copyFrom_0 : decode cX8_copyFrom 0 = .ok (.aload_n 0, 1) := by decide +kernel
theorem dX8_copyFrom_1 : decode cX8_copyFrom 1 = .ok (.aload_n 1, 1) := by decide +kernel
theorem dX8_copyFrom_2 : decode cX8_copyFrom 2 = .ok (.getfield 7, 3) := by decide +kernel
theorem dX8_copyFrom_5 : decode cX8_copyFrom 5 = .ok (.putfield 7, 3) := by decide +kernel
theorem dX8_copyFrom_8 : decode cX8_copyFrom 8 = .ok (.aload_n 0, 1) := by decide +kernel
theorem dX8_copyFrom_9 : decode cX8_copyFrom 9 = .ok (.aload_n 1, 1) := by decide +kernel
theorem dX8_copyFrom_10 : decode cX8_copyFrom 10 = .ok (.getfield 13, 3) := by decide +kernel
theorem dX8_copyFrom_13 : decode cX8_copyFrom 13 = .ok (.putfield 13, 3) := by decide +kernel
theorem dX8_copyFrom_16 : decode cX8_copyFrom 16 = .ok (.aload_n 0, 1) := by decide +kernel
theorem dX8_copyFrom_17 : decode cX8_copyFrom 17 = .ok (.aload_n 1, 1) := by decide +kernel
theorem dX8_copyFrom_18 : decode cX8_copyFrom 18 = .ok (.getfield 16, 3) := by decide +kernel
theorem dX8_copyFrom_21 : decode cX8_copyFrom 21 = .ok (.putfield 16, 3) := by decide +kernel
theorem dX8_copyFrom_24 : decode cX8_copyFrom 24 = .ok (.aload_n 0, 1) := by decide +kernel
theorem dX8_copyFrom_25 : decode cX8_copyFrom 25 = .ok (.aload_n 1, 1) := by decide +kernel
theorem dX8_copyFrom_26 : decode cX8_copyFrom 26 = .ok (.getfield 19, 3) := by decide +kernel
theorem dX8_copyFrom_29 : decode cX8_copyFrom 29 = .ok (.putfield 19, 3) := by decide +kernel
theorem dX8_copyFrom_32 : decode cX8_copyFrom 32 = .ok (.aload_n 0, 1) := by decide +kernel
theorem dX8_copyFrom_33 : decode cX8_copyFrom 33 = .ok (.aload_n 1, 1) := by decide +kernel
theorem dX8_copyFrom_34 : decode cX8_copyFrom 34 = .ok (.getfield 22, 3) := by decide +kernel
theorem dX8_copyFrom_37 : decode cX8_copyFrom 37 = .ok (.putfield 22, 3) := by decide +kernel
theorem dX8_copyFrom_40 : decode cX8_copyFrom 40 = .ok (.aload_n 0, 1) := by decide +kernel
theorem dX8_copyFrom_41 : decode cX8_copyFrom 41 = .ok (.aload_n 1, 1) := by decide +kernel
theorem dX8_copyFrom_42 : decode cX8_copyFrom 42 = .ok (.getfield 25, 3) := by decide +kernel
theorem dX8_copyFrom_45 : decode cX8_copyFrom 45 = .ok (.putfield 25, 3) := by decide +kernel
theorem dX8_copyFrom_48 : decode cX8_copyFrom 48 = .ok (.return_, 1) := by decide +kernel
theorem dX8_eat_0 : decode cX8_eat 0 = .ok (.aload_n 0, 1) := by decide +kernel
theorem dX8_eat_1 : decode cX8_eat 1 = .ok (.getfield 19, 3) := by decide +kernel
theorem dX8_eat_4 : decode cX8_eat 4 = .ok (.aload_n 0, 1) := by decide +kernel
theorem dX8_eat_5 : decode cX8_eat 5 = .ok (.getfield 16, 3) := by decide +kernel
theorem dX8_eat_8 : decode cX8_eat 8 = .ok (.invokestatic 28, 3) := by decide +kernel
theorem dX8_eat_11 : decode cX8_eat 11 = .ok (.istore_n 1, 1) := by decide +kernel
theorem dX8_eat_12 : decode cX8_eat 12 = .ok (.aload_n 0, 1) := by decide +kernel
theorem dX8_eat_13 : decode cX8_eat 13 = .ok (.dup, 1) := by decide +kernel
theorem dX8_eat_14 : decode cX8_eat 14 = .ok (.getfield 19, 3) := by decide +kernel
theorem dX8_eat_17 : decode cX8_eat 17 = .ok (.iload_n 1, 1) := by decide +kernel
theorem dX8_eat_18 : decode cX8_eat 18 = .ok (.isub, 1) := by decide +kernel
theorem dX8_eat_19 : decode cX8_eat 19 = .ok (.putfield 19, 3) := by decide +kernel
theorem dX8_eat_22 : decode cX8_eat 22 = .ok (.aload_n 0, 1) := by decide +kernel
theorem dX8_eat_23 : decode cX8_eat 23 = .ok (.getfield 16, 3) := by decide +kernel
theorem dX8_eat_26 : decode cX8_eat 26 = .ok (.iload_n 1, 1) := by decide +kernel
theorem dX8_eat_27 : decode cX8_eat 27 = .ok (.isub, 1) := by decide +kernel
theorem dX8_eat_28 : decode cX8_eat 28 = .ok (.ireturn, 1) := by decide +kernel
theorem dX9_init_0 : decode cX9_init 0 = .ok (.aload_n 0, 1) := by decide +kernel
theorem dX9_init_1 : decode cX9_init 1 = .ok (.invokespecial 1, 3) := by decide +kernel
theorem dX9_init_4 : decode cX9_init 4 = .ok (.return_, 1) := by decide +kernel
theorem dX9_eastward_0 : decode cX9_eastward 0 = .ok (.aload_n 1, 1) := by decide +kernel
theorem dX9_eastward_1 : decode cX9_eastward 1 = .ok (.getfield 7, 3) := by decide +kernel
theorem dX9_eastward_4 : decode cX9_eastward 4 = .ok (.iload_n 2, 1) := by decide +kernel
theorem dX9_eastward_5 : decode cX9_eastward 5 = .ok (.invokestatic 13, 3) := by decide +kernel
theorem dX9_eastward_8 : decode cX9_eastward 8 = .ok (.aload_n 0, 1) := by decide +kernel
theorem dX9_eastward_9 : decode cX9_eastward 9 = .ok (.aload_n 1, 1) := by decide +kernel
theorem dX9_eastward_10 : decode cX9_eastward 10 = .ok (.iload_n 2, 1) := by decide +kernel
theorem dX9_eastward_11 : decode cX9_eastward 11 = .ok (.invokespecial 19, 3) := by decide +kernel
theorem dX9_eastward_14 : decode cX9_eastward 14 = .ok (.imul, 1) := by decide +kernel
theorem dX9_eastward_15 : decode cX9_eastward 15 = .ok (.ireturn, 1) := by decide +kernel
theorem dX9_northward_0 : decode cX9_northward 0 = .ok (.aload_n 1, 1) := by decide +kernel
theorem dX9_northward_1 : decode cX9_northward 1 = .ok (.getfield 7, 3) := by decide +kernel
theorem dX9_northward_4 : decode cX9_northward 4 = .ok (.iload_n 2, 1) := by decide +kernel
theorem dX9_northward_5 : decode cX9_northward 5 = .ok (.invokestatic 13, 3) := by decide +kernel
theorem dX9_northward_8 : decode cX9_northward 8 = .ok (.aload_n 0, 1) := by decide +kernel
theorem dX9_northward_9 : decode cX9_northward 9 = .ok (.aload_n 1, 1) := by decide +kernel
theorem dX9_northward_10 : decode cX9_northward 10 = .ok (.iload_n 2, 1) := by decide +kernel
theorem dX9_northward_11 : decode cX9_northward 11 = .ok (.invokespecial 23, 3) := by decide +kernel
theorem dX9_northward_14 : decode cX9_northward 14 = .ok (.imul, 1) := by decide +kernel
theorem dX9_northward_15 : decode cX9_northward 15 = .ok (.ireturn, 1) := by decide +kernel
theorem dX9_way_0 : decode cX9_way 0 = .ok (.iload_n 1, 1) := by decide +kernel
theorem dX9_way_1 : decode cX9_way 1 = .ok (.iconst 2, 1) := by decide +kernel
theorem dX9_way_2 : decode cX9_way 2 = .ok (.iadd, 1) := by decide +kernel
theorem dX9_way_3 : decode cX9_way 3 = .ok (.istore_n 2, 1) := by decide +kernel
theorem dX9_way_4 : decode cX9_way 4 = .ok (.iload_n 2, 1) := by decide +kernel
theorem dX9_way_5 : decode cX9_way 5 = .ok (.ifCond .le 13, 3) := by decide +kernel
theorem dX9_way_8 : decode cX9_way 8 = .ok (.iload_n 0, 1) := by decide +kernel
theorem dX9_way_9 : decode cX9_way 9 = .ok (.iload_n 2, 1) := by decide +kernel
theorem dX9_way_10 : decode cX9_way 10 = .ok (.irem, 1) := by decide +kernel
theorem dX9_way_11 : decode cX9_way 11 = .ok (.ifCond .ne 7, 3) := by decide +kernel
theorem dX9_way_14 : decode cX9_way 14 = .ok (.iconst (-1), 1) := by decide +kernel
theorem dX9_way_15 : decode cX9_way 15 = .ok (.goto 4, 3) := by decide +kernel
theorem dX9_way_18 : decode cX9_way 18 = .ok (.iconst 1, 1) := by decide +kernel
theorem dX9_way_19 : decode cX9_way 19 = .ok (.ireturn, 1) := by decide +kernel
theorem dX10_init_0 : decode cX10_init 0 = .ok (.aload_n 0, 1) := by decide +kernel
theorem dX10_init_1 : decode cX10_init 1 = .ok (.invokespecial 1, 3) := by decide +kernel
theorem dX10_init_4 : decode cX10_init 4 = .ok (.return_, 1) := by decide +kernel
theorem dX10_eastward_0 : decode cX10_eastward 0 = .ok (.aload_n 0, 1) := by decide +kernel
theorem dX10_eastward_1 : decode cX10_eastward 1 = .ok (.aload_n 1, 1) := by decide +kernel
theorem dX10_eastward_2 : decode cX10_eastward 2 = .ok (.iload_n 2, 1) := by decide +kernel
theorem dX10_eastward_3 : decode cX10_eastward 3 = .ok (.invokespecial 7, 3) := by decide +kernel
theorem dX10_eastward_6 : decode cX10_eastward 6 = .ok (.ineg, 1) := by decide +kernel
theorem dX10_eastward_7 : decode cX10_eastward 7 = .ok (.ireturn, 1) := by decide +kernel
theorem dX10_northward_0 : decode cX10_northward 0 = .ok (.aload_n 0, 1) := by decide +kernel
theorem dX10_northward_1 : decode cX10_northward 1 = .ok (.aload_n 1, 1) := by decide +kernel
theorem dX10_northward_2 : decode cX10_northward 2 = .ok (.iload_n 2, 1) := by decide +kernel
theorem dX10_northward_3 : decode cX10_northward 3 = .ok (.invokespecial 11, 3) := by decide +kernel
theorem dX10_northward_6 : decode cX10_northward 6 = .ok (.ireturn, 1) := by decide +kernel
theorem dX11_init_0 : decode cX11_init 0 = .ok (.aload_n 0, 1) := by decide +kernel
theorem dX11_init_1 : decode cX11_init 1 = .ok (.invokespecial 1, 3) := by decide +kernel
theorem dX11_init_4 : decode cX11_init 4 = .ok (.aload_n 0, 1) := by decide +kernel
theorem dX11_init_5 : decode cX11_init 5 = .ok (.bipush 6, 2) := by decide +kernel
theorem dX11_init_7 : decode cX11_init 7 = .ok (.anewarray 7, 3) := by decide +kernel
theorem dX11_init_10 : decode cX11_init 10 = .ok (.dup, 1) := by decide +kernel
theorem dX11_init_11 : decode cX11_init 11 = .ok (.iconst 0, 1) := by decide +kernel
theorem dX11_init_12 : decode cX11_init 12 = .ok (.new 7, 3) := by decide +kernel
theorem dX11_init_15 : decode cX11_init 15 = .ok (.dup, 1) := by decide +kernel
theorem dX11_init_16 : decode cX11_init 16 = .ok (.invokespecial 9, 3) := by decide +kernel
theorem dX11_init_19 : decode cX11_init 19 = .ok (.aastore, 1) := by decide +kernel
theorem dX11_init_20 : decode cX11_init 20 = .ok (.dup, 1) := by decide +kernel
theorem dX11_init_21 : decode cX11_init 21 = .ok (.iconst 1, 1) := by decide +kernel
theorem dX11_init_22 : decode cX11_init 22 = .ok (.new 10, 3) := by decide +kernel
theorem dX11_init_25 : decode cX11_init 25 = .ok (.dup, 1) := by decide +kernel
theorem dX11_init_26 : decode cX11_init 26 = .ok (.invokespecial 12, 3) := by decide +kernel
theorem dX11_init_29 : decode cX11_init 29 = .ok (.aastore, 1) := by decide +kernel
theorem dX11_init_30 : decode cX11_init 30 = .ok (.dup, 1) := by decide +kernel
theorem dX11_init_31 : decode cX11_init 31 = .ok (.iconst 2, 1) := by decide +kernel
theorem dX11_init_32 : decode cX11_init 32 = .ok (.new 13, 3) := by decide +kernel
theorem dX11_init_35 : decode cX11_init 35 = .ok (.dup, 1) := by decide +kernel
theorem dX11_init_36 : decode cX11_init 36 = .ok (.invokespecial 15, 3) := by decide +kernel
theorem dX11_init_39 : decode cX11_init 39 = .ok (.aastore, 1) := by decide +kernel
theorem dX11_init_40 : decode cX11_init 40 = .ok (.dup, 1) := by decide +kernel
theorem dX11_init_41 : decode cX11_init 41 = .ok (.iconst 3, 1) := by decide +kernel
theorem dX11_init_42 : decode cX11_init 42 = .ok (.new 16, 3) := by decide +kernel
theorem dX11_init_45 : decode cX11_init 45 = .ok (.dup, 1) := by decide +kernel
theorem dX11_init_46 : decode cX11_init 46 = .ok (.invokespecial 18, 3) := by decide +kernel
theorem dX11_init_49 : decode cX11_init 49 = .ok (.aastore, 1) := by decide +kernel
theorem dX11_init_50 : decode cX11_init 50 = .ok (.dup, 1) := by decide +kernel
theorem dX11_init_51 : decode cX11_init 51 = .ok (.iconst 4, 1) := by decide +kernel
theorem dX11_init_52 : decode cX11_init 52 = .ok (.new 19, 3) := by decide +kernel
theorem dX11_init_55 : decode cX11_init 55 = .ok (.dup, 1) := by decide +kernel
theorem dX11_init_56 : decode cX11_init 56 = .ok (.invokespecial 21, 3) := by decide +kernel
theorem dX11_init_59 : decode cX11_init 59 = .ok (.aastore, 1) := by decide +kernel
theorem dX11_init_60 : decode cX11_init 60 = .ok (.dup, 1) := by decide +kernel
theorem dX11_init_61 : decode cX11_init 61 = .ok (.iconst 5, 1) := by decide +kernel
theorem dX11_init_62 : decode cX11_init 62 = .ok (.new 22, 3) := by decide +kernel
theorem dX11_init_65 : decode cX11_init 65 = .ok (.dup, 1) := by decide +kernel
theorem dX11_init_66 : decode cX11_init 66 = .ok (.invokespecial 24, 3) := by decide +kernel
theorem dX11_init_69 : decode cX11_init 69 = .ok (.aastore, 1) := by decide +kernel
theorem dX11_init_70 : decode cX11_init 70 = .ok (.putfield 25, 3) := by decide +kernel
theorem dX11_init_73 : decode cX11_init 73 = .ok (.aload_n 0, 1) := by decide +kernel
theorem dX11_init_74 : decode cX11_init 74 = .ok (.new 31, 3) := by decide +kernel
theorem dX11_init_77 : decode cX11_init 77 = .ok (.dup, 1) := by decide +kernel
theorem dX11_init_78 : decode cX11_init 78 = .ok (.invokespecial 33, 3) := by decide +kernel
theorem dX11_init_81 : decode cX11_init 81 = .ok (.putfield 34, 3) := by decide +kernel
theorem dX11_init_84 : decode cX11_init 84 = .ok (.aload_n 0, 1) := by decide +kernel
theorem dX11_init_85 : decode cX11_init 85 = .ok (.new 38, 3) := by decide +kernel
theorem dX11_init_88 : decode cX11_init 88 = .ok (.dup, 1) := by decide +kernel
theorem dX11_init_89 : decode cX11_init 89 = .ok (.invokespecial 40, 3) := by decide +kernel
theorem dX11_init_92 : decode cX11_init 92 = .ok (.putfield 41, 3) := by decide +kernel
theorem dX11_init_95 : decode cX11_init 95 = .ok (.aload_n 0, 1) := by decide +kernel
theorem dX11_init_96 : decode cX11_init 96 = .ok (.new 45, 3) := by decide +kernel
theorem dX11_init_99 : decode cX11_init 99 = .ok (.dup, 1) := by decide +kernel
theorem dX11_init_100 : decode cX11_init 100 = .ok (.invokespecial 47, 3) := by decide +kernel
theorem dX11_init_103 : decode cX11_init 103 = .ok (.putfield 48, 3) := by decide +kernel
theorem dX11_init_106 : decode cX11_init 106 = .ok (.aload_n 0, 1) := by decide +kernel
theorem dX11_init_107 : decode cX11_init 107 = .ok (.new 45, 3) := by decide +kernel
theorem dX11_init_110 : decode cX11_init 110 = .ok (.dup, 1) := by decide +kernel
theorem dX11_init_111 : decode cX11_init 111 = .ok (.invokespecial 47, 3) := by decide +kernel
theorem dX11_init_114 : decode cX11_init 114 = .ok (.putfield 52, 3) := by decide +kernel
theorem dX11_init_117 : decode cX11_init 117 = .ok (.aload_n 0, 1) := by decide +kernel
theorem dX11_init_118 : decode cX11_init 118 = .ok (.new 45, 3) := by decide +kernel
theorem dX11_init_121 : decode cX11_init 121 = .ok (.dup, 1) := by decide +kernel
theorem dX11_init_122 : decode cX11_init 122 = .ok (.invokespecial 47, 3) := by decide +kernel
theorem dX11_init_125 : decode cX11_init 125 = .ok (.putfield 55, 3) := by decide +kernel
theorem dX11_init_128 : decode cX11_init 128 = .ok (.aload_n 0, 1) := by decide +kernel
theorem dX11_init_129 : decode cX11_init 129 = .ok (.new 58, 3) := by decide +kernel
theorem dX11_init_132 : decode cX11_init 132 = .ok (.dup, 1) := by decide +kernel
theorem dX11_init_133 : decode cX11_init 133 = .ok (.invokespecial 60, 3) := by decide +kernel
theorem dX11_init_136 : decode cX11_init 136 = .ok (.putfield 61, 3) := by decide +kernel
theorem dX11_init_139 : decode cX11_init 139 = .ok (.aload_n 0, 1) := by decide +kernel
theorem dX11_init_140 : decode cX11_init 140 = .ok (.bipush 12, 2) := by decide +kernel
theorem dX11_init_142 : decode cX11_init 142 = .ok (.newarray .int, 2) := by decide +kernel
theorem dX11_init_144 : decode cX11_init 144 = .ok (.putfield 65, 3) := by decide +kernel
theorem dX11_init_147 : decode cX11_init 147 = .ok (.aload_n 0, 1) := by decide +kernel
theorem dX11_init_148 : decode cX11_init 148 = .ok (.bipush 7, 2) := by decide +kernel
theorem dX11_init_150 : decode cX11_init 150 = .ok (.newarray .int, 2) := by decide +kernel
theorem dX11_init_152 : decode cX11_init 152 = .ok (.putfield 69, 3) := by decide +kernel
theorem dX11_init_155 : decode cX11_init 155 = .ok (.return_, 1) := by decide +kernel
theorem dX11_feed_0 : decode cX11_feed 0 = .ok (.iload_n 1, 1) := by decide +kernel
theorem dX11_feed_1 : decode cX11_feed 1 = .ok (.ifCond .ge 10, 3) := by decide +kernel
theorem dX11_feed_4 : decode cX11_feed 4 = .ok (.aload_n 0, 1) := by decide +kernel
theorem dX11_feed_5 : decode cX11_feed 5 = .ok (.bipush (-4), 2) := by decide +kernel
theorem dX11_feed_7 : decode cX11_feed 7 = .ok (.invokevirtual 72, 3) := by decide +kernel
theorem dX11_feed_10 : decode cX11_feed 10 = .ok (.ireturn, 1) := by decide +kernel
theorem dX11_feed_11 : decode cX11_feed 11 = .ok (.iload_n 1, 1) := by decide +kernel
theorem dX11_feed_12 : decode cX11_feed 12 = .ok (.sipush 255, 3) := by decide +kernel
theorem dX11_feed_15 : decode cX11_feed 15 = .ok (.if_icmp .gt 15, 3) := by decide +kernel
theorem dX11_feed_18 : decode cX11_feed 18 = .ok (.aload_n 0, 1) := by decide +kernel
theorem dX11_feed_19 : decode cX11_feed 19 = .ok (.getfield 61, 3) := by decide +kernel
theorem dX11_feed_22 : decode cX11_feed 22 = .ok (.getfield 76, 3) := by decide +kernel
theorem dX11_feed_25 : decode cX11_feed 25 = .ok (.bipush 80, 2) := by decide +kernel
theorem dX11_feed_27 : decode cX11_feed 27 = .ok (.if_icmp .lt 10, 3) := by decide +kernel
theorem dX11_feed_30 : decode cX11_feed 30 = .ok (.aload_n 0, 1) := by decide +kernel
theorem dX11_feed_31 : decode cX11_feed 31 = .ok (.bipush (-6), 2) := by decide +kernel
theorem dX11_feed_33 : decode cX11_feed 33 = .ok (.invokevirtual 72, 3) := by decide +kernel
theorem dX11_feed_36 : decode cX11_feed 36 = .ok (.ireturn, 1) := by decide +kernel
theorem dX11_feed_37 : decode cX11_feed 37 = .ok (.aload_n 0, 1) := by decide +kernel
theorem dX11_feed_38 : decode cX11_feed 38 = .ok (.getfield 61, 3) := by decide +kernel
theorem dX11_feed_41 : decode cX11_feed 41 = .ok (.iload_n 1, 1) := by decide +kernel
theorem dX11_feed_42 : decode cX11_feed 42 = .ok (.invokevirtual 80, 3) := by decide +kernel
theorem dX11_feed_45 : decode cX11_feed 45 = .ok (.aload_n 0, 1) := by decide +kernel
theorem dX11_feed_46 : decode cX11_feed 46 = .ok (.getfield 61, 3) := by decide +kernel
theorem dX11_feed_49 : decode cX11_feed 49 = .ok (.getfield 76, 3) := by decide +kernel
theorem dX11_feed_52 : decode cX11_feed 52 = .ok (.ireturn, 1) := by decide +kernel
theorem dX11_pack_0 : decode cX11_pack 0 = .ok (.aload_n 0, 1) := by decide +kernel
theorem dX11_pack_1 : decode cX11_pack 1 = .ok (.getfield 52, 3) := by decide +kernel
theorem dX11_pack_4 : decode cX11_pack 4 = .ok (.aload_n 0, 1) := by decide +kernel
theorem dX11_pack_5 : decode cX11_pack 5 = .ok (.getfield 48, 3) := by decide +kernel
theorem dX11_pack_8 : decode cX11_pack 8 = .ok (.invokevirtual 84, 3) := by decide +kernel
theorem dX11_pack_11 : decode cX11_pack 11 = .ok (.aload_n 0, 1) := by decide +kernel
theorem dX11_pack_12 : decode cX11_pack 12 = .ok (.getfield 61, 3) := by decide +kernel
theorem dX11_pack_15 : decode cX11_pack 15 = .ok (.aload_n 0, 1) := by decide +kernel
theorem dX11_pack_16 : decode cX11_pack 16 = .ok (.getfield 52, 3) := by decide +kernel
theorem dX11_pack_19 : decode cX11_pack 19 = .ok (.invokevirtual 88, 3) := by decide +kernel
theorem dX11_pack_22 : decode cX11_pack 22 = .ok (.istore_n 1, 1) := by decide +kernel
theorem dX11_pack_23 : decode cX11_pack 23 = .ok (.iload_n 1, 1) := by decide +kernel
theorem dX11_pack_24 : decode cX11_pack 24 = .ok (.ifCond .le 14, 3) := by decide +kernel
theorem dX11_pack_27 : decode cX11_pack 27 = .ok (.aload_n 0, 1) := by decide +kernel
theorem dX11_pack_28 : decode cX11_pack 28 = .ok (.getfield 48, 3) := by decide +kernel
theorem dX11_pack_31 : decode cX11_pack 31 = .ok (.aload_n 0, 1) := by decide +kernel
theorem dX11_pack_32 : decode cX11_pack 32 = .ok (.getfield 52, 3) := by decide +kernel
theorem dX11_pack_35 : decode cX11_pack 35 = .ok (.invokevirtual 84, 3) := by decide +kernel
theorem dX11_pack_38 : decode cX11_pack 38 = .ok (.iload_n 1, 1) := by decide +kernel
theorem dX11_pack_39 : decode cX11_pack 39 = .ok (.ireturn, 1) := by decide +kernel
theorem dX11_ship_0 : decode cX11_ship 0 = .ok (.aload_n 0, 1) := by decide +kernel
theorem dX11_ship_1 : decode cX11_ship 1 = .ok (.iload_n 1, 1) := by decide +kernel
theorem dX11_ship_2 : decode cX11_ship 2 = .ok (.invokevirtual 92, 3) := by decide +kernel
theorem dX11_ship_5 : decode cX11_ship 5 = .ok (.iload_n 2, 1) := by decide +kernel
theorem dX11_ship_6 : decode cX11_ship 6 = .ok (.bipush 7, 2) := by decide +kernel
theorem dX11_ship_8 : decode cX11_ship 8 = .ok (.invokestatic 95, 3) := by decide +kernel
theorem dX11_ship_11 : decode cX11_ship 11 = .ok (.invokestatic 99, 3) := by decide +kernel
theorem dX11_ship_14 : decode cX11_ship 14 = .ok (.istore_n 3, 1) := by decide +kernel
theorem dX11_ship_15 : decode cX11_ship 15 = .ok (.iload_n 3, 1) := by decide +kernel
theorem dX11_ship_16 : decode cX11_ship 16 = .ok (.ifCond .eq 9, 3) := by decide +kernel
theorem dX11_ship_19 : decode cX11_ship 19 = .ok (.aload_n 0, 1) := by decide +kernel
theorem dX11_ship_20 : decode cX11_ship 20 = .ok (.iload_n 3, 1) := by decide +kernel
theorem dX11_ship_21 : decode cX11_ship 21 = .ok (.invokevirtual 72, 3) := by decide +kernel
theorem dX11_ship_24 : decode cX11_ship 24 = .ok (.ireturn, 1) := by decide +kernel
theorem dX11_ship_25 : decode cX11_ship 25 = .ok (.aload_n 0, 1) := by decide +kernel
theorem dX11_ship_26 : decode cX11_ship 26 = .ok (.getfield 48, 3) := by decide +kernel
theorem dX11_ship_29 : decode cX11_ship 29 = .ok (.getfield 102, 3) := by decide +kernel
theorem dX11_ship_32 : decode cX11_ship 32 = .ok (.iload_n 1, 1) := by decide +kernel
theorem dX11_ship_33 : decode cX11_ship 33 = .ok (.aaload, 1) := by decide +kernel
theorem dX11_ship_34 : decode cX11_ship 34 = .ok (.astore 4, 2) := by decide +kernel
theorem dX11_ship_36 : decode cX11_ship 36 = .ok (.iload_n 2, 1) := by decide +kernel
theorem dX11_ship_37 : decode cX11_ship 37 = .ok (.tableswitch 81 0 5 #[39, 45, 51, 57, 63, 72], 39) := by decide +kernel
theorem dX11_ship_76 : decode cX11_ship 76 = .ok (.aload 4, 2) := by decide +kernel
theorem dX11_ship_78 : decode cX11_ship 78 = .ok (.getfield 106, 3) := by decide +kernel
theorem dX11_ship_81 : decode cX11_ship 81 = .ok (.ireturn, 1) := by decide +kernel
theorem dX11_ship_82 : decode cX11_ship 82 = .ok (.aload 4, 2) := by decide +kernel
theorem dX11_ship_84 : decode cX11_ship 84 = .ok (.getfield 111, 3) := by decide +kernel
theorem dX11_ship_87 : decode cX11_ship 87 = .ok (.ireturn, 1) := by decide +kernel
theorem dX11_ship_88 : decode cX11_ship 88 = .ok (.aload 4, 2) := by decide +kernel
theorem dX11_ship_90 : decode cX11_ship 90 = .ok (.getfield 114, 3) := by decide +kernel
theorem dX11_ship_93 : decode cX11_ship 93 = .ok (.ireturn, 1) := by decide +kernel
theorem dX11_ship_94 : decode cX11_ship 94 = .ok (.aload 4, 2) := by decide +kernel
theorem dX11_ship_96 : decode cX11_ship 96 = .ok (.getfield 117, 3) := by decide +kernel
theorem dX11_ship_99 : decode cX11_ship 99 = .ok (.ireturn, 1) := by decide +kernel
theorem dX11_ship_100 : decode cX11_ship 100 = .ok (.ldc 120, 2) := by decide +kernel
theorem dX11_ship_102 : decode cX11_ship 102 = .ok (.aload 4, 2) := by decide +kernel
theorem dX11_ship_104 : decode cX11_ship 104 = .ok (.getfield 121, 3) := by decide +kernel
theorem dX11_ship_107 : decode cX11_ship 107 = .ok (.iadd, 1) := by decide +kernel
theorem dX11_ship_108 : decode cX11_ship 108 = .ok (.ireturn, 1) := by decide +kernel
theorem dX11_ship_109 : decode cX11_ship 109 = .ok (.ldc 120, 2) := by decide +kernel
theorem dX11_ship_111 : decode cX11_ship 111 = .ok (.aload 4, 2) := by decide +kernel
theorem dX11_ship_113 : decode cX11_ship 113 = .ok (.getfield 124, 3) := by decide +kernel
theorem dX11_ship_116 : decode cX11_ship 116 = .ok (.iadd, 1) := by decide +kernel
theorem dX11_ship_117 : decode cX11_ship 117 = .ok (.ireturn, 1) := by decide +kernel
theorem dX11_ship_118 : decode cX11_ship 118 = .ok (.ldc 120, 2) := by decide +kernel
theorem dX11_ship_120 : decode cX11_ship 120 = .ok (.aload_n 0, 1) := by decide +kernel
theorem dX11_ship_121 : decode cX11_ship 121 = .ok (.aload 4, 2) := by decide +kernel
theorem dX11_ship_123 : decode cX11_ship 123 = .ok (.iload_n 2, 1) := by decide +kernel
theorem dX11_ship_124 : decode cX11_ship 124 = .ok (.bipush 6, 2) := by decide +kernel
theorem dX11_ship_126 : decode cX11_ship 126 = .ok (.if_icmp .ne 7, 3) := by decide +kernel
theorem dX11_ship_129 : decode cX11_ship 129 = .ok (.iconst 1, 1) := by decide +kernel
theorem dX11_ship_130 : decode cX11_ship 130 = .ok (.goto 4, 3) := by decide +kernel
theorem dX11_ship_133 : decode cX11_ship 133 = .ok (.iconst 0, 1) := by decide +kernel
theorem dX11_ship_134 : decode cX11_ship 134 = .ok (.invokevirtual 127, 3) := by decide +kernel
theorem dX11_ship_137 : decode cX11_ship 137 = .ok (.iadd, 1) := by decide +kernel
theorem dX11_ship_138 : decode cX11_ship 138 = .ok (.ireturn, 1) := by decide +kernel
theorem dX11_wind_0 : decode cX11_wind 0 = .ok (.iload_n 1, 1) := by decide +kernel
theorem dX11_wind_1 : decode cX11_wind 1 = .ok (.invokestatic 131, 3) := by decide +kernel
theorem dX11_wind_4 : decode cX11_wind 4 = .ok (.ifCond .eq 11, 3) := by decide +kernel
theorem dX11_wind_7 : decode cX11_wind 7 = .ok (.aload_n 0, 1) := by decide +kernel
theorem dX11_wind_8 : decode cX11_wind 8 = .ok (.iload_n 1, 1) := by decide +kernel
theorem dX11_wind_9 : decode cX11_wind 9 = .ok (.invokevirtual 135, 3) := by decide +kernel
theorem dX11_wind_12 : decode cX11_wind 12 = .ok (.goto 8, 3) := by decide +kernel
theorem dX11_wind_15 : decode cX11_wind 15 = .ok (.aload_n 0, 1) := by decide +kernel
theorem dX11_wind_16 : decode cX11_wind 16 = .ok (.iconst (-1), 1) := by decide +kernel
theorem dX11_wind_17 : decode cX11_wind 17 = .ok (.invokevirtual 72, 3) := by decide +kernel
theorem dX11_wind_20 : decode cX11_wind 20 = .ok (.ireturn, 1) := by decide +kernel
theorem dX11_blow_0 : decode cX11_blow 0 = .ok (.iload_n 1, 1) := by decide +kernel
theorem dX11_blow_1 : decode cX11_blow 1 = .ok (.invokestatic 131, 3) := by decide +kernel
theorem dX11_blow_4 : decode cX11_blow 4 = .ok (.ifCond .ne 9, 3) := by decide +kernel
theorem dX11_blow_7 : decode cX11_blow 7 = .ok (.aload_n 0, 1) := by decide +kernel
theorem dX11_blow_8 : decode cX11_blow 8 = .ok (.iconst (-1), 1) := by decide +kernel
theorem dX11_blow_9 : decode cX11_blow 9 = .ok (.invokevirtual 72, 3) := by decide +kernel
theorem dX11_blow_12 : decode cX11_blow 12 = .ok (.ireturn, 1) := by decide +kernel
theorem dX11_blow_13 : decode cX11_blow 13 = .ok (.iload_n 2, 1) := by decide +kernel
theorem dX11_blow_14 : decode cX11_blow 14 = .ok (.iload_n 3, 1) := by decide +kernel
theorem dX11_blow_15 : decode cX11_blow 15 = .ok (.bipush (-4), 2) := by decide +kernel
theorem dX11_blow_17 : decode cX11_blow 17 = .ok (.iconst 4, 1) := by decide +kernel
theorem dX11_blow_18 : decode cX11_blow 18 = .ok (.invokestatic 138, 3) := by decide +kernel
theorem dX11_blow_21 : decode cX11_blow 21 = .ok (.istore 4, 2) := by decide +kernel
theorem dX11_blow_23 : decode cX11_blow 23 = .ok (.iload 4, 2) := by decide +kernel
theorem dX11_blow_25 : decode cX11_blow 25 = .ok (.ifCond .eq 10, 3) := by decide +kernel
theorem dX11_blow_28 : decode cX11_blow 28 = .ok (.aload_n 0, 1) := by decide +kernel
theorem dX11_blow_29 : decode cX11_blow 29 = .ok (.iload 4, 2) := by decide +kernel
theorem dX11_blow_31 : decode cX11_blow 31 = .ok (.invokevirtual 72, 3) := by decide +kernel
theorem dX11_blow_34 : decode cX11_blow 34 = .ok (.ireturn, 1) := by decide +kernel
theorem dX11_blow_35 : decode cX11_blow 35 = .ok (.aload_n 0, 1) := by decide +kernel
theorem dX11_blow_36 : decode cX11_blow 36 = .ok (.iload_n 1, 1) := by decide +kernel
theorem dX11_blow_37 : decode cX11_blow 37 = .ok (.invokevirtual 135, 3) := by decide +kernel
theorem dX11_blow_40 : decode cX11_blow 40 = .ok (.istore 5, 2) := by decide +kernel
theorem dX11_blow_42 : decode cX11_blow 42 = .ok (.aload_n 0, 1) := by decide +kernel
theorem dX11_blow_43 : decode cX11_blow 43 = .ok (.getfield 48, 3) := by decide +kernel
theorem dX11_blow_46 : decode cX11_blow 46 = .ok (.getfield 142, 3) := by decide +kernel
theorem dX11_blow_49 : decode cX11_blow 49 = .ok (.iload_n 1, 1) := by decide +kernel
theorem dX11_blow_50 : decode cX11_blow 50 = .ok (.iload_n 2, 1) := by decide +kernel
theorem dX11_blow_51 : decode cX11_blow 51 = .ok (.iastore, 1) := by decide +kernel
theorem dX11_blow_52 : decode cX11_blow 52 = .ok (.aload_n 0, 1) := by decide +kernel
theorem dX11_blow_53 : decode cX11_blow 53 = .ok (.getfield 48, 3) := by decide +kernel
theorem dX11_blow_56 : decode cX11_blow 56 = .ok (.getfield 145, 3) := by decide +kernel
theorem dX11_blow_59 : decode cX11_blow 59 = .ok (.iload_n 1, 1) := by decide +kernel
theorem dX11_blow_60 : decode cX11_blow 60 = .ok (.iload_n 3, 1) := by decide +kernel
theorem dX11_blow_61 : decode cX11_blow 61 = .ok (.iastore, 1) := by decide +kernel
theorem dX11_blow_62 : decode cX11_blow 62 = .ok (.iload 5, 2) := by decide +kernel
theorem dX11_blow_64 : decode cX11_blow 64 = .ok (.ireturn, 1) := by decide +kernel
theorem dX11_set_0 : decode cX11_set 0 = .ok (.iload_n 1, 1) := by decide +kernel
theorem dX11_set_1 : decode cX11_set 1 = .ok (.ifCond .ne 8, 3) := by decide +kernel
theorem dX11_set_4 : decode cX11_set 4 = .ok (.bipush 40, 2) := by decide +kernel
theorem dX11_set_6 : decode cX11_set 6 = .ok (.goto 5, 3) := by decide +kernel
theorem dX11_set_9 : decode cX11_set 9 = .ok (.bipush 99, 2) := by decide +kernel
theorem dX11_set_11 : decode cX11_set 11 = .ok (.istore_n 3, 1) := by decide +kernel
theorem dX11_set_12 : decode cX11_set 12 = .ok (.iload_n 1, 1) := by decide +kernel
theorem dX11_set_13 : decode cX11_set 13 = .ok (.iconst 1, 1) := by decide +kernel
theorem dX11_set_14 : decode cX11_set 14 = .ok (.invokestatic 95, 3) := by decide +kernel
theorem dX11_set_17 : decode cX11_set 17 = .ok (.iload_n 2, 1) := by decide +kernel
theorem dX11_set_18 : decode cX11_set 18 = .ok (.iconst 1, 1) := by decide +kernel
theorem dX11_set_19 : decode cX11_set 19 = .ok (.iload_n 3, 1) := by decide +kernel
theorem dX11_set_20 : decode cX11_set 20 = .ok (.invokestatic 148, 3) := by decide +kernel
theorem dX11_set_23 : decode cX11_set 23 = .ok (.invokestatic 99, 3) := by decide +kernel
theorem dX11_set_26 : decode cX11_set 26 = .ok (.istore 4, 2) := by decide +kernel
theorem dX11_set_28 : decode cX11_set 28 = .ok (.iload 4, 2) := by decide +kernel
theorem dX11_set_30 : decode cX11_set 30 = .ok (.ifCond .eq 10, 3) := by decide +kernel
theorem dX11_set_33 : decode cX11_set 33 = .ok (.aload_n 0, 1) := by decide +kernel
theorem dX11_set_34 : decode cX11_set 34 = .ok (.iload 4, 2) := by decide +kernel
theorem dX11_set_36 : decode cX11_set 36 = .ok (.invokevirtual 72, 3) := by decide +kernel
theorem dX11_set_39 : decode cX11_set 39 = .ok (.ireturn, 1) := by decide +kernel
theorem dX11_set_40 : decode cX11_set 40 = .ok (.iload_n 1, 1) := by decide +kernel
theorem dX11_set_41 : decode cX11_set 41 = .ok (.ifCond .ne 13, 3) := by decide +kernel
theorem dX11_set_44 : decode cX11_set 44 = .ok (.aload_n 0, 1) := by decide +kernel
theorem dX11_set_45 : decode cX11_set 45 = .ok (.getfield 48, 3) := by decide +kernel
theorem dX11_set_48 : decode cX11_set 48 = .ok (.getfield 152, 3) := by decide +kernel
theorem dX11_set_51 : decode cX11_set 51 = .ok (.goto 10, 3) := by decide +kernel
theorem dX11_set_54 : decode cX11_set 54 = .ok (.aload_n 0, 1) := by decide +kernel
theorem dX11_set_55 : decode cX11_set 55 = .ok (.getfield 48, 3) := by decide +kernel
theorem dX11_set_58 : decode cX11_set 58 = .ok (.getfield 155, 3) := by decide +kernel
theorem dX11_set_61 : decode cX11_set 61 = .ok (.istore 5, 2) := by decide +kernel
theorem dX11_set_63 : decode cX11_set 63 = .ok (.iload_n 1, 1) := by decide +kernel
theorem dX11_set_64 : decode cX11_set 64 = .ok (.ifCond .ne 14, 3) := by decide +kernel
theorem dX11_set_67 : decode cX11_set 67 = .ok (.aload_n 0, 1) := by decide +kernel
theorem dX11_set_68 : decode cX11_set 68 = .ok (.getfield 48, 3) := by decide +kernel
theorem dX11_set_71 : decode cX11_set 71 = .ok (.iload_n 2, 1) := by decide +kernel
theorem dX11_set_72 : decode cX11_set 72 = .ok (.putfield 152, 3) := by decide +kernel
theorem dX11_set_75 : decode cX11_set 75 = .ok (.goto 11, 3) := by decide +kernel
theorem dX11_set_78 : decode cX11_set 78 = .ok (.aload_n 0, 1) := by decide +kernel
theorem dX11_set_79 : decode cX11_set 79 = .ok (.getfield 48, 3) := by decide +kernel
theorem dX11_set_82 : decode cX11_set 82 = .ok (.iload_n 2, 1) := by decide +kernel
theorem dX11_set_83 : decode cX11_set 83 = .ok (.putfield 155, 3) := by decide +kernel
theorem dX11_set_86 : decode cX11_set 86 = .ok (.iload 5, 2) := by decide +kernel
theorem dX11_set_88 : decode cX11_set 88 = .ok (.ireturn, 1) := by decide +kernel
theorem dX11_go_0 : decode cX11_go 0 = .ok (.iload_n 1, 1) := by decide +kernel
theorem dX11_go_1 : decode cX11_go 1 = .ok (.iconst 1, 1) := by decide +kernel
theorem dX11_go_2 : decode cX11_go 2 = .ok (.bipush 60, 2) := by decide +kernel
theorem dX11_go_4 : decode cX11_go 4 = .ok (.sipush 9999, 3) := by decide +kernel
theorem dX11_go_7 : decode cX11_go 7 = .ok (.aload_n 0, 1) := by decide +kernel
theorem dX11_go_8 : decode cX11_go 8 = .ok (.getfield 48, 3) := by decide +kernel
theorem dX11_go_11 : decode cX11_go 11 = .ok (.getfield 158, 3) := by decide +kernel
theorem dX11_go_14 : decode cX11_go 14 = .ok (.isub, 1) := by decide +kernel
theorem dX11_go_15 : decode cX11_go 15 = .ok (.invokestatic 161, 3) := by decide +kernel
theorem dX11_go_18 : decode cX11_go 18 = .ok (.invokestatic 148, 3) := by decide +kernel
theorem dX11_go_21 : decode cX11_go 21 = .ok (.istore_n 2, 1) := by decide +kernel
theorem dX11_go_22 : decode cX11_go 22 = .ok (.iload_n 2, 1) := by decide +kernel
theorem dX11_go_23 : decode cX11_go 23 = .ok (.ifCond .eq 9, 3) := by decide +kernel
theorem dX11_go_26 : decode cX11_go 26 = .ok (.aload_n 0, 1) := by decide +kernel
theorem dX11_go_27 : decode cX11_go 27 = .ok (.iload_n 2, 1) := by decide +kernel
theorem dX11_go_28 : decode cX11_go 28 = .ok (.invokevirtual 72, 3) := by decide +kernel
theorem dX11_go_31 : decode cX11_go 31 = .ok (.ireturn, 1) := by decide +kernel
theorem dX11_go_32 : decode cX11_go 32 = .ok (.iconst 0, 1) := by decide +kernel
theorem dX11_go_33 : decode cX11_go 33 = .ok (.istore_n 3, 1) := by decide +kernel
theorem dX11_go_34 : decode cX11_go 34 = .ok (.iconst 0, 1) := by decide +kernel
theorem dX11_go_35 : decode cX11_go 35 = .ok (.istore 4, 2) := by decide +kernel
theorem dX11_go_37 : decode cX11_go 37 = .ok (.iload 4, 2) := by decide +kernel
theorem dX11_go_39 : decode cX11_go 39 = .ok (.iload_n 1, 1) := by decide +kernel
theorem dX11_go_40 : decode cX11_go 40 = .ok (.if_icmp .ge 20, 3) := by decide +kernel
theorem dX11_go_43 : decode cX11_go 43 = .ok (.iload_n 3, 1) := by decide +kernel
theorem dX11_go_44 : decode cX11_go 44 = .ok (.aload_n 0, 1) := by decide +kernel
theorem dX11_go_45 : decode cX11_go 45 = .ok (.aload_n 0, 1) := by decide +kernel
theorem dX11_go_46 : decode cX11_go 46 = .ok (.getfield 48, 3) := by decide +kernel
theorem dX11_go_49 : decode cX11_go 49 = .ok (.invokevirtual 166, 3) := by decide +kernel
theorem dX11_go_52 : decode cX11_go 52 = .ok (.iadd, 1) := by decide +kernel
theorem dX11_go_53 : decode cX11_go 53 = .ok (.istore_n 3, 1) := by decide +kernel
theorem dX11_go_54 : decode cX11_go 54 = .ok (.iinc 4 1, 3) := by decide +kernel
theorem dX11_go_57 : decode cX11_go 57 = .ok (.goto (-20), 3) := by decide +kernel
theorem dX11_go_60 : decode cX11_go 60 = .ok (.aload_n 0, 1) := by decide +kernel
theorem dX11_go_61 : decode cX11_go 61 = .ok (.getfield 48, 3) := by decide +kernel
theorem dX11_go_64 : decode cX11_go 64 = .ok (.dup, 1) := by decide +kernel
theorem dX11_go_65 : decode cX11_go 65 = .ok (.getfield 169, 3) := by decide +kernel
theorem dX11_go_68 : decode cX11_go 68 = .ok (.iload_n 3, 1) := by decide +kernel
theorem dX11_go_69 : decode cX11_go 69 = .ok (.iadd, 1) := by decide +kernel
theorem dX11_go_70 : decode cX11_go 70 = .ok (.putfield 169, 3) := by decide +kernel
theorem dX11_go_73 : decode cX11_go 73 = .ok (.iload_n 3, 1) := by decide +kernel
theorem dX11_go_74 : decode cX11_go 74 = .ok (.ireturn, 1) := by decide +kernel
theorem dX11_far_0 : decode cX11_far 0 = .ok (.aload_n 0, 1) := by decide +kernel
theorem dX11_far_1 : decode cX11_far 1 = .ok (.iload_n 1, 1) := by decide +kernel
theorem dX11_far_2 : decode cX11_far 2 = .ok (.iload_n 2, 1) := by decide +kernel
theorem dX11_far_3 : decode cX11_far 3 = .ok (.invokevirtual 172, 3) := by decide +kernel
theorem dX11_far_6 : decode cX11_far 6 = .ok (.istore_n 3, 1) := by decide +kernel
theorem dX11_far_7 : decode cX11_far 7 = .ok (.iload_n 3, 1) := by decide +kernel
theorem dX11_far_8 : decode cX11_far 8 = .ok (.ifCond .eq 11, 3) := by decide +kernel
theorem dX11_far_11 : decode cX11_far 11 = .ok (.aload_n 0, 1) := by decide +kernel
theorem dX11_far_12 : decode cX11_far 12 = .ok (.iload_n 3, 1) := by decide +kernel
theorem dX11_far_13 : decode cX11_far 13 = .ok (.invokevirtual 72, 3) := by decide +kernel
theorem dX11_far_16 : decode cX11_far 16 = .ok (.goto 12, 3) := by decide +kernel
theorem dX11_far_19 : decode cX11_far 19 = .ok (.aload_n 0, 1) := by decide +kernel
theorem dX11_far_20 : decode cX11_far 20 = .ok (.getfield 48, 3) := by decide +kernel
theorem dX11_far_23 : decode cX11_far 23 = .ok (.iload_n 1, 1) := by decide +kernel
theorem dX11_far_24 : decode cX11_far 24 = .ok (.iload_n 2, 1) := by decide +kernel
theorem dX11_far_25 : decode cX11_far 25 = .ok (.invokevirtual 175, 3) := by decide +kernel
theorem dX11_far_28 : decode cX11_far 28 = .ok (.ireturn, 1) := by decide +kernel
theorem dX11_open_0 : decode cX11_open 0 = .ok (.aload_n 0, 1) := by decide +kernel
theorem dX11_open_1 : decode cX11_open 1 = .ok (.iload_n 1, 1) := by decide +kernel
theorem dX11_open_2 : decode cX11_open 2 = .ok (.iload_n 2, 1) := by decide +kernel
theorem dX11_open_3 : decode cX11_open 3 = .ok (.invokevirtual 172, 3) := by decide +kernel
theorem dX11_open_6 : decode cX11_open 6 = .ok (.iload_n 3, 1) := by decide +kernel
theorem dX11_open_7 : decode cX11_open 7 = .ok (.iconst 2, 1) := by decide +kernel
theorem dX11_open_8 : decode cX11_open 8 = .ok (.invokestatic 95, 3) := by decide +kernel
theorem dX11_open_11 : decode cX11_open 11 = .ok (.invokestatic 99, 3) := by decide +kernel
theorem dX11_open_14 : decode cX11_open 14 = .ok (.istore 4, 2) := by decide +kernel
theorem dX11_open_16 : decode cX11_open 16 = .ok (.iload 4, 2) := by decide +kernel
theorem dX11_open_18 : decode cX11_open 18 = .ok (.ifCond .eq 10, 3) := by decide +kernel
theorem dX11_open_21 : decode cX11_open 21 = .ok (.aload_n 0, 1) := by decide +kernel
theorem dX11_open_22 : decode cX11_open 22 = .ok (.iload 4, 2) := by decide +kernel
theorem dX11_open_24 : decode cX11_open 24 = .ok (.invokevirtual 72, 3) := by decide +kernel
theorem dX11_open_27 : decode cX11_open 27 = .ok (.ireturn, 1) := by decide +kernel
theorem dX11_open_28 : decode cX11_open 28 = .ok (.iload_n 3, 1) := by decide +kernel
theorem dX11_open_29 : decode cX11_open 29 = .ok (.ifCond .ne 13, 3) := by decide +kernel
theorem dX11_open_32 : decode cX11_open 32 = .ok (.aload_n 0, 1) := by decide +kernel
theorem dX11_open_33 : decode cX11_open 33 = .ok (.getfield 48, 3) := by decide +kernel
theorem dX11_open_36 : decode cX11_open 36 = .ok (.getfield 152, 3) := by decide +kernel
theorem dX11_open_39 : decode cX11_open 39 = .ok (.goto 19, 3) := by decide +kernel
theorem dX11_open_42 : decode cX11_open 42 = .ok (.iload_n 3, 1) := by decide +kernel
theorem dX11_open_43 : decode cX11_open 43 = .ok (.iconst 1, 1) := by decide +kernel
theorem dX11_open_44 : decode cX11_open 44 = .ok (.if_icmp .ne 7, 3) := by decide +kernel
theorem dX11_open_47 : decode cX11_open 47 = .ok (.iconst 1, 1) := by decide +kernel
theorem dX11_open_48 : decode cX11_open 48 = .ok (.goto 10, 3) := by decide +kernel
theorem dX11_open_51 : decode cX11_open 51 = .ok (.aload_n 0, 1) := by decide +kernel
theorem dX11_open_52 : decode cX11_open 52 = .ok (.getfield 48, 3) := by decide +kernel
theorem dX11_open_55 : decode cX11_open 55 = .ok (.getfield 155, 3) := by decide +kernel
theorem dX11_open_58 : decode cX11_open 58 = .ok (.istore 5, 2) := by decide +kernel
theorem dX11_open_60 : decode cX11_open 60 = .ok (.aload_n 0, 1) := by decide +kernel
theorem dX11_open_61 : decode cX11_open 61 = .ok (.getfield 48, 3) := by decide +kernel
theorem dX11_open_64 : decode cX11_open 64 = .ok (.iload_n 1, 1) := by decide +kernel
theorem dX11_open_65 : decode cX11_open 65 = .ok (.iload_n 2, 1) := by decide +kernel
theorem dX11_open_66 : decode cX11_open 66 = .ok (.invokevirtual 175, 3) := by decide +kernel
theorem dX11_open_69 : decode cX11_open 69 = .ok (.iload 5, 2) := by decide +kernel
theorem dX11_open_71 : decode cX11_open 71 = .ok (.if_icmp .gt 7, 3) := by decide +kernel
theorem dX11_open_74 : decode cX11_open 74 = .ok (.iconst 1, 1) := by decide +kernel
theorem dX11_open_75 : decode cX11_open 75 = .ok (.goto 4, 3) := by decide +kernel
theorem dX11_open_78 : decode cX11_open 78 = .ok (.iconst 0, 1) := by decide +kernel
theorem dX11_open_79 : decode cX11_open 79 = .ok (.ireturn, 1) := by decide +kernel
theorem dX11_behind_0 : decode cX11_behind 0 = .ok (.aload_n 0, 1) := by decide +kernel
theorem dX11_behind_1 : decode cX11_behind 1 = .ok (.iload_n 1, 1) := by decide +kernel
theorem dX11_behind_2 : decode cX11_behind 2 = .ok (.invokevirtual 92, 3) := by decide +kernel
theorem dX11_behind_5 : decode cX11_behind 5 = .ok (.iload_n 2, 1) := by decide +kernel
theorem dX11_behind_6 : decode cX11_behind 6 = .ok (.iconst 0, 1) := by decide +kernel
theorem dX11_behind_7 : decode cX11_behind 7 = .ok (.bipush 60, 2) := by decide +kernel
theorem dX11_behind_9 : decode cX11_behind 9 = .ok (.invokestatic 148, 3) := by decide +kernel
theorem dX11_behind_12 : decode cX11_behind 12 = .ok (.invokestatic 99, 3) := by decide +kernel
theorem dX11_behind_15 : decode cX11_behind 15 = .ok (.istore_n 3, 1) := by decide +kernel
theorem dX11_behind_16 : decode cX11_behind 16 = .ok (.iload_n 3, 1) := by decide +kernel
theorem dX11_behind_17 : decode cX11_behind 17 = .ok (.ifCond .eq 14, 3) := by decide +kernel
theorem dX11_behind_20 : decode cX11_behind 20 = .ok (.ldc2_w 178, 3) := by decide +kernel
theorem dX11_behind_23 : decode cX11_behind 23 = .ok (.aload_n 0, 1) := by decide +kernel
theorem dX11_behind_24 : decode cX11_behind 24 = .ok (.iload_n 3, 1) := by decide +kernel
theorem dX11_behind_25 : decode cX11_behind 25 = .ok (.invokevirtual 72, 3) := by decide +kernel
theorem dX11_behind_28 : decode cX11_behind 28 = .ok (.i2l, 1) := by decide +kernel
theorem dX11_behind_29 : decode cX11_behind 29 = .ok (.lsub, 1) := by decide +kernel
theorem dX11_behind_30 : decode cX11_behind 30 = .ok (.lreturn, 1) := by decide +kernel
theorem dX11_behind_31 : decode cX11_behind 31 = .ok (.aload_n 0, 1) := by decide +kernel
theorem dX11_behind_32 : decode cX11_behind 32 = .ok (.getfield 52, 3) := by decide +kernel
theorem dX11_behind_35 : decode cX11_behind 35 = .ok (.aload_n 0, 1) := by decide +kernel
theorem dX11_behind_36 : decode cX11_behind 36 = .ok (.getfield 48, 3) := by decide +kernel
theorem dX11_behind_39 : decode cX11_behind 39 = .ok (.invokevirtual 84, 3) := by decide +kernel
theorem dX11_behind_42 : decode cX11_behind 42 = .ok (.iconst 0, 1) := by decide +kernel
theorem dX11_behind_43 : decode cX11_behind 43 = .ok (.istore 4, 2) := by decide +kernel
theorem dX11_behind_45 : decode cX11_behind 45 = .ok (.iload 4, 2) := by decide +kernel
theorem dX11_behind_47 : decode cX11_behind 47 = .ok (.iload_n 2, 1) := by decide +kernel
theorem dX11_behind_48 : decode cX11_behind 48 = .ok (.if_icmp .ge 18, 3) := by decide +kernel
theorem dX11_behind_51 : decode cX11_behind 51 = .ok (.aload_n 0, 1) := by decide +kernel
theorem dX11_behind_52 : decode cX11_behind 52 = .ok (.aload_n 0, 1) := by decide +kernel
theorem dX11_behind_53 : decode cX11_behind 53 = .ok (.getfield 52, 3) := by decide +kernel
theorem dX11_behind_56 : decode cX11_behind 56 = .ok (.invokevirtual 166, 3) := by decide +kernel
theorem dX11_behind_59 : decode cX11_behind 59 = .ok (.pop, 1) := by decide +kernel
theorem dX11_behind_60 : decode cX11_behind 60 = .ok (.iinc 4 1, 3) := by decide +kernel
theorem dX11_behind_63 : decode cX11_behind 63 = .ok (.goto (-18), 3) := by decide +kernel
theorem dX11_behind_66 : decode cX11_behind 66 = .ok (.aload_n 0, 1) := by decide +kernel
theorem dX11_behind_67 : decode cX11_behind 67 = .ok (.getfield 52, 3) := by decide +kernel
theorem dX11_behind_70 : decode cX11_behind 70 = .ok (.getfield 102, 3) := by decide +kernel
theorem dX11_behind_73 : decode cX11_behind 73 = .ok (.iload_n 1, 1) := by decide +kernel
theorem dX11_behind_74 : decode cX11_behind 74 = .ok (.aaload, 1) := by decide +kernel
theorem dX11_behind_75 : decode cX11_behind 75 = .ok (.getfield 121, 3) := by decide +kernel
theorem dX11_behind_78 : decode cX11_behind 78 = .ok (.aload_n 0, 1) := by decide +kernel
theorem dX11_behind_79 : decode cX11_behind 79 = .ok (.getfield 48, 3) := by decide +kernel
theorem dX11_behind_82 : decode cX11_behind 82 = .ok (.getfield 102, 3) := by decide +kernel
theorem dX11_behind_85 : decode cX11_behind 85 = .ok (.iload_n 1, 1) := by decide +kernel
theorem dX11_behind_86 : decode cX11_behind 86 = .ok (.aaload, 1) := by decide +kernel
theorem dX11_behind_87 : decode cX11_behind 87 = .ok (.getfield 121, 3) := by decide +kernel
theorem dX11_behind_90 : decode cX11_behind 90 = .ok (.isub, 1) := by decide +kernel
theorem dX11_behind_91 : decode cX11_behind 91 = .ok (.i2l, 1) := by decide +kernel
theorem dX11_behind_92 : decode cX11_behind 92 = .ok (.lstore 4, 2) := by decide +kernel
theorem dX11_behind_94 : decode cX11_behind 94 = .ok (.aload_n 0, 1) := by decide +kernel
theorem dX11_behind_95 : decode cX11_behind 95 = .ok (.getfield 52, 3) := by decide +kernel
theorem dX11_behind_98 : decode cX11_behind 98 = .ok (.getfield 102, 3) := by decide +kernel
theorem dX11_behind_101 : decode cX11_behind 101 = .ok (.iload_n 1, 1) := by decide +kernel
theorem dX11_behind_102 : decode cX11_behind 102 = .ok (.aaload, 1) := by decide +kernel
theorem dX11_behind_103 : decode cX11_behind 103 = .ok (.getfield 124, 3) := by decide +kernel
theorem dX11_behind_106 : decode cX11_behind 106 = .ok (.aload_n 0, 1) := by decide +kernel
theorem dX11_behind_107 : decode cX11_behind 107 = .ok (.getfield 48, 3) := by decide +kernel
theorem dX11_behind_110 : decode cX11_behind 110 = .ok (.getfield 102, 3) := by decide +kernel
theorem dX11_behind_113 : decode cX11_behind 113 = .ok (.iload_n 1, 1) := by decide +kernel
theorem dX11_behind_114 : decode cX11_behind 114 = .ok (.aaload, 1) := by decide +kernel
theorem dX11_behind_115 : decode cX11_behind 115 = .ok (.getfield 124, 3) := by decide +kernel
theorem dX11_behind_118 : decode cX11_behind 118 = .ok (.isub, 1) := by decide +kernel
theorem dX11_behind_119 : decode cX11_behind 119 = .ok (.i2l, 1) := by decide +kernel
theorem dX11_behind_120 : decode cX11_behind 120 = .ok (.lstore 6, 2) := by decide +kernel
theorem dX11_behind_122 : decode cX11_behind 122 = .ok (.ldc2_w 180, 3) := by decide +kernel
theorem dX11_behind_125 : decode cX11_behind 125 = .ok (.lload 4, 2) := by decide +kernel
theorem dX11_behind_127 : decode cX11_behind 127 = .ok (.lmul, 1) := by decide +kernel
theorem dX11_behind_128 : decode cX11_behind 128 = .ok (.lload 6, 2) := by decide +kernel
theorem dX11_behind_130 : decode cX11_behind 130 = .ok (.ladd, 1) := by decide +kernel
theorem dX11_behind_131 : decode cX11_behind 131 = .ok (.lreturn, 1) := by decide +kernel
theorem dX11_meet_0 : decode cX11_meet 0 = .ok (.aload_n 0, 1) := by decide +kernel
theorem dX11_meet_1 : decode cX11_meet 1 = .ok (.iload_n 1, 1) := by decide +kernel
theorem dX11_meet_2 : decode cX11_meet 2 = .ok (.iload_n 2, 1) := by decide +kernel
theorem dX11_meet_3 : decode cX11_meet 3 = .ok (.invokevirtual 172, 3) := by decide +kernel
theorem dX11_meet_6 : decode cX11_meet 6 = .ok (.istore_n 3, 1) := by decide +kernel
theorem dX11_meet_7 : decode cX11_meet 7 = .ok (.iload_n 3, 1) := by decide +kernel
theorem dX11_meet_8 : decode cX11_meet 8 = .ok (.ifCond .eq 9, 3) := by decide +kernel
theorem dX11_meet_11 : decode cX11_meet 11 = .ok (.aload_n 0, 1) := by decide +kernel
theorem dX11_meet_12 : decode cX11_meet 12 = .ok (.iload_n 3, 1) := by decide +kernel
theorem dX11_meet_13 : decode cX11_meet 13 = .ok (.invokevirtual 72, 3) := by decide +kernel
theorem dX11_meet_16 : decode cX11_meet 16 = .ok (.ireturn, 1) := by decide +kernel
theorem dX11_meet_17 : decode cX11_meet 17 = .ok (.aload_n 0, 1) := by decide +kernel
theorem dX11_meet_18 : decode cX11_meet 18 = .ok (.getfield 52, 3) := by decide +kernel
theorem dX11_meet_21 : decode cX11_meet 21 = .ok (.aload_n 0, 1) := by decide +kernel
theorem dX11_meet_22 : decode cX11_meet 22 = .ok (.getfield 48, 3) := by decide +kernel
theorem dX11_meet_25 : decode cX11_meet 25 = .ok (.invokevirtual 84, 3) := by decide +kernel
theorem dX11_meet_28 : decode cX11_meet 28 = .ok (.iconst 0, 1) := by decide +kernel
theorem dX11_meet_29 : decode cX11_meet 29 = .ok (.istore 4, 2) := by decide +kernel
theorem dX11_meet_31 : decode cX11_meet 31 = .ok (.iload 4, 2) := by decide +kernel
theorem dX11_meet_33 : decode cX11_meet 33 = .ok (.bipush 60, 2) := by decide +kernel
theorem dX11_meet_35 : decode cX11_meet 35 = .ok (.if_icmp .gt 34, 3) := by decide +kernel
theorem dX11_meet_38 : decode cX11_meet 38 = .ok (.aload_n 0, 1) := by decide +kernel
theorem dX11_meet_39 : decode cX11_meet 39 = .ok (.getfield 52, 3) := by decide +kernel
theorem dX11_meet_42 : decode cX11_meet 42 = .ok (.iload_n 1, 1) := by decide +kernel
theorem dX11_meet_43 : decode cX11_meet 43 = .ok (.iload_n 2, 1) := by decide +kernel
theorem dX11_meet_44 : decode cX11_meet 44 = .ok (.invokevirtual 175, 3) := by decide +kernel
theorem dX11_meet_47 : decode cX11_meet 47 = .ok (.iconst 1, 1) := by decide +kernel
theorem dX11_meet_48 : decode cX11_meet 48 = .ok (.if_icmp .gt 6, 3) := by decide +kernel
theorem dX11_meet_51 : decode cX11_meet 51 = .ok (.iload 4, 2) := by decide +kernel
theorem dX11_meet_53 : decode cX11_meet 53 = .ok (.ireturn, 1) := by decide +kernel
theorem dX11_meet_54 : decode cX11_meet 54 = .ok (.aload_n 0, 1) := by decide +kernel
theorem dX11_meet_55 : decode cX11_meet 55 = .ok (.aload_n 0, 1) := by decide +kernel
theorem dX11_meet_56 : decode cX11_meet 56 = .ok (.getfield 52, 3) := by decide +kernel
theorem dX11_meet_59 : decode cX11_meet 59 = .ok (.invokevirtual 166, 3) := by decide +kernel
theorem dX11_meet_62 : decode cX11_meet 62 = .ok (.pop, 1) := by decide +kernel
theorem dX11_meet_63 : decode cX11_meet 63 = .ok (.iinc 4 1, 3) := by decide +kernel
theorem dX11_meet_66 : decode cX11_meet 66 = .ok (.goto (-35), 3) := by decide +kernel
theorem dX11_meet_69 : decode cX11_meet 69 = .ok (.bipush (-9), 2) := by decide +kernel
theorem dX11_meet_71 : decode cX11_meet 71 = .ok (.ireturn, 1) := by decide +kernel
theorem dX11_nearest_0 : decode cX11_nearest 0 = .ok (.aload_n 0, 1) := by decide +kernel
theorem dX11_nearest_1 : decode cX11_nearest 1 = .ok (.iload_n 1, 1) := by decide +kernel
theorem dX11_nearest_2 : decode cX11_nearest 2 = .ok (.iload_n 2, 1) := by decide +kernel
theorem dX11_nearest_3 : decode cX11_nearest 3 = .ok (.invokevirtual 172, 3) := by decide +kernel
theorem dX11_nearest_6 : decode cX11_nearest 6 = .ok (.iload_n 3, 1) := by decide +kernel
theorem dX11_nearest_7 : decode cX11_nearest 7 = .ok (.iconst 0, 1) := by decide +kernel
theorem dX11_nearest_8 : decode cX11_nearest 8 = .ok (.bipush 60, 2) := by decide +kernel
theorem dX11_nearest_10 : decode cX11_nearest 10 = .ok (.invokestatic 148, 3) := by decide +kernel
theorem dX11_nearest_13 : decode cX11_nearest 13 = .ok (.iload 4, 2) := by decide +kernel
theorem dX11_nearest_15 : decode cX11_nearest 15 = .ok (.iconst 1, 1) := by decide +kernel
theorem dX11_nearest_16 : decode cX11_nearest 16 = .ok (.invokestatic 95, 3) := by decide +kernel
theorem dX11_nearest_19 : decode cX11_nearest 19 = .ok (.invokestatic 99, 3) := by decide +kernel
theorem dX11_nearest_22 : decode cX11_nearest 22 = .ok (.invokestatic 99, 3) := by decide +kernel
theorem dX11_nearest_25 : decode cX11_nearest 25 = .ok (.istore 5, 2) := by decide +kernel
theorem dX11_nearest_27 : decode cX11_nearest 27 = .ok (.iload 5, 2) := by decide +kernel
theorem dX11_nearest_29 : decode cX11_nearest 29 = .ok (.ifCond .eq 10, 3) := by decide +kernel
theorem dX11_nearest_32 : decode cX11_nearest 32 = .ok (.aload_n 0, 1) := by decide +kernel
theorem dX11_nearest_33 : decode cX11_nearest 33 = .ok (.iload 5, 2) := by decide +kernel
theorem dX11_nearest_35 : decode cX11_nearest 35 = .ok (.invokevirtual 72, 3) := by decide +kernel
theorem dX11_nearest_38 : decode cX11_nearest 38 = .ok (.ireturn, 1) := by decide +kernel
theorem dX11_nearest_39 : decode cX11_nearest 39 = .ok (.aload_n 0, 1) := by decide +kernel
theorem dX11_nearest_40 : decode cX11_nearest 40 = .ok (.getfield 52, 3) := by decide +kernel
theorem dX11_nearest_43 : decode cX11_nearest 43 = .ok (.aload_n 0, 1) := by decide +kernel
theorem dX11_nearest_44 : decode cX11_nearest 44 = .ok (.getfield 48, 3) := by decide +kernel
theorem dX11_nearest_47 : decode cX11_nearest 47 = .ok (.invokevirtual 84, 3) := by decide +kernel
theorem dX11_nearest_50 : decode cX11_nearest 50 = .ok (.iconst 0, 1) := by decide +kernel
theorem dX11_nearest_51 : decode cX11_nearest 51 = .ok (.istore 6, 2) := by decide +kernel
theorem dX11_nearest_53 : decode cX11_nearest 53 = .ok (.aload_n 0, 1) := by decide +kernel
theorem dX11_nearest_54 : decode cX11_nearest 54 = .ok (.getfield 48, 3) := by decide +kernel
theorem dX11_nearest_57 : decode cX11_nearest 57 = .ok (.iload_n 1, 1) := by decide +kernel
theorem dX11_nearest_58 : decode cX11_nearest 58 = .ok (.iload_n 2, 1) := by decide +kernel
theorem dX11_nearest_59 : decode cX11_nearest 59 = .ok (.invokevirtual 175, 3) := by decide +kernel
theorem dX11_nearest_62 : decode cX11_nearest 62 = .ok (.istore 7, 2) := by decide +kernel
theorem dX11_nearest_64 : decode cX11_nearest 64 = .ok (.iconst 1, 1) := by decide +kernel
theorem dX11_nearest_65 : decode cX11_nearest 65 = .ok (.istore 8, 2) := by decide +kernel
theorem dX11_nearest_67 : decode cX11_nearest 67 = .ok (.iload 8, 2) := by decide +kernel
theorem dX11_nearest_69 : decode cX11_nearest 69 = .ok (.iload_n 3, 1) := by decide +kernel
theorem dX11_nearest_70 : decode cX11_nearest 70 = .ok (.if_icmp .gt 44, 3) := by decide +kernel
theorem dX11_nearest_73 : decode cX11_nearest 73 = .ok (.aload_n 0, 1) := by decide +kernel
theorem dX11_nearest_74 : decode cX11_nearest 74 = .ok (.aload_n 0, 1) := by decide +kernel
theorem dX11_nearest_75 : decode cX11_nearest 75 = .ok (.getfield 52, 3) := by decide +kernel
theorem dX11_nearest_78 : decode cX11_nearest 78 = .ok (.invokevirtual 166, 3) := by decide +kernel
theorem dX11_nearest_81 : decode cX11_nearest 81 = .ok (.pop, 1) := by decide +kernel
theorem dX11_nearest_82 : decode cX11_nearest 82 = .ok (.aload_n 0, 1) := by decide +kernel
theorem dX11_nearest_83 : decode cX11_nearest 83 = .ok (.getfield 52, 3) := by decide +kernel
theorem dX11_nearest_86 : decode cX11_nearest 86 = .ok (.iload_n 1, 1) := by decide +kernel
theorem dX11_nearest_87 : decode cX11_nearest 87 = .ok (.iload_n 2, 1) := by decide +kernel
theorem dX11_nearest_88 : decode cX11_nearest 88 = .ok (.invokevirtual 175, 3) := by decide +kernel
theorem dX11_nearest_91 : decode cX11_nearest 91 = .ok (.istore 9, 2) := by decide +kernel
theorem dX11_nearest_93 : decode cX11_nearest 93 = .ok (.iload 9, 2) := by decide +kernel
theorem dX11_nearest_95 : decode cX11_nearest 95 = .ok (.iload 7, 2) := by decide +kernel
theorem dX11_nearest_97 : decode cX11_nearest 97 = .ok (.if_icmp .ge 11, 3) := by decide +kernel
theorem dX11_nearest_100 : decode cX11_nearest 100 = .ok (.iload 9, 2) := by decide +kernel
theorem dX11_nearest_102 : decode cX11_nearest 102 = .ok (.istore 7, 2) := by decide +kernel
theorem dX11_nearest_104 : decode cX11_nearest 104 = .ok (.iload 8, 2) := by decide +kernel
theorem dX11_nearest_106 : decode cX11_nearest 106 = .ok (.istore 6, 2) := by decide +kernel
theorem dX11_nearest_108 : decode cX11_nearest 108 = .ok (.iinc 8 1, 3) := by decide +kernel
theorem dX11_nearest_111 : decode cX11_nearest 111 = .ok (.goto (-44), 3) := by decide +kernel
theorem dX11_nearest_114 : decode cX11_nearest 114 = .ok (.iload 4, 2) := by decide +kernel
theorem dX11_nearest_116 : decode cX11_nearest 116 = .ok (.ifCond .ne 8, 3) := by decide +kernel
theorem dX11_nearest_119 : decode cX11_nearest 119 = .ok (.iload 6, 2) := by decide +kernel
theorem dX11_nearest_121 : decode cX11_nearest 121 = .ok (.goto 5, 3) := by decide +kernel
theorem dX11_nearest_124 : decode cX11_nearest 124 = .ok (.iload 7, 2) := by decide +kernel
theorem dX11_nearest_126 : decode cX11_nearest 126 = .ok (.ireturn, 1) := by decide +kernel
theorem dX11_there_0 : decode cX11_there 0 = .ok (.aload_n 0, 1) := by decide +kernel
theorem dX11_there_1 : decode cX11_there 1 = .ok (.iload_n 1, 1) := by decide +kernel
theorem dX11_there_2 : decode cX11_there 2 = .ok (.invokevirtual 92, 3) := by decide +kernel
theorem dX11_there_5 : decode cX11_there 5 = .ok (.aload_n 0, 1) := by decide +kernel
theorem dX11_there_6 : decode cX11_there 6 = .ok (.iload_n 2, 1) := by decide +kernel
theorem dX11_there_7 : decode cX11_there 7 = .ok (.invokevirtual 92, 3) := by decide +kernel
theorem dX11_there_10 : decode cX11_there 10 = .ok (.invokestatic 99, 3) := by decide +kernel
theorem dX11_there_13 : decode cX11_there 13 = .ok (.istore_n 3, 1) := by decide +kernel
theorem dX11_there_14 : decode cX11_there 14 = .ok (.iload_n 3, 1) := by decide +kernel
theorem dX11_there_15 : decode cX11_there 15 = .ok (.ifCond .eq 9, 3) := by decide +kernel
theorem dX11_there_18 : decode cX11_there 18 = .ok (.aload_n 0, 1) := by decide +kernel
theorem dX11_there_19 : decode cX11_there 19 = .ok (.iload_n 3, 1) := by decide +kernel
theorem dX11_there_20 : decode cX11_there 20 = .ok (.invokevirtual 72, 3) := by decide +kernel
theorem dX11_there_23 : decode cX11_there 23 = .ok (.ireturn, 1) := by decide +kernel
theorem dX11_there_24 : decode cX11_there 24 = .ok (.aload_n 0, 1) := by decide +kernel
theorem dX11_there_25 : decode cX11_there 25 = .ok (.getfield 52, 3) := by decide +kernel
theorem dX11_there_28 : decode cX11_there 28 = .ok (.aload_n 0, 1) := by decide +kernel
theorem dX11_there_29 : decode cX11_there 29 = .ok (.getfield 48, 3) := by decide +kernel
theorem dX11_there_32 : decode cX11_there 32 = .ok (.invokevirtual 84, 3) := by decide +kernel
theorem dX11_there_35 : decode cX11_there 35 = .ok (.aload_n 0, 1) := by decide +kernel
theorem dX11_there_36 : decode cX11_there 36 = .ok (.iconst 1, 1) := by decide +kernel
theorem dX11_there_37 : decode cX11_there 37 = .ok (.iload_n 1, 1) := by decide +kernel
theorem dX11_there_38 : decode cX11_there 38 = .ok (.ishl, 1) := by decide +kernel
theorem dX11_there_39 : decode cX11_there 39 = .ok (.iconst 1, 1) := by decide +kernel
theorem dX11_there_40 : decode cX11_there 40 = .ok (.iload_n 2, 1) := by decide +kernel
theorem dX11_there_41 : decode cX11_there 41 = .ok (.ishl, 1) := by decide +kernel
theorem dX11_there_42 : decode cX11_there 42 = .ok (.bipush 40, 2) := by decide +kernel
theorem dX11_there_44 : decode cX11_there 44 = .ok (.invokevirtual 182, 3) := by decide +kernel
theorem dX11_there_47 : decode cX11_there 47 = .ok (.ireturn, 1) := by decide +kernel
theorem dX11_back_0 : decode cX11_back 0 = .ok (.aload_n 0, 1) := by decide +kernel
theorem dX11_back_1 : decode cX11_back 1 = .ok (.iload_n 1, 1) := by decide +kernel
theorem dX11_back_2 : decode cX11_back 2 = .ok (.iload_n 2, 1) := by decide +kernel
theorem dX11_back_3 : decode cX11_back 3 = .ok (.invokevirtual 172, 3) := by decide +kernel
theorem dX11_back_6 : decode cX11_back 6 = .ok (.istore_n 3, 1) := by decide +kernel
theorem dX11_back_7 : decode cX11_back 7 = .ok (.iload_n 3, 1) := by decide +kernel
theorem dX11_back_8 : decode cX11_back 8 = .ok (.ifCond .eq 9, 3) := by decide +kernel
theorem dX11_back_11 : decode cX11_back 11 = .ok (.aload_n 0, 1) := by decide +kernel
theorem dX11_back_12 : decode cX11_back 12 = .ok (.iload_n 3, 1) := by decide +kernel
theorem dX11_back_13 : decode cX11_back 13 = .ok (.invokevirtual 72, 3) := by decide +kernel
theorem dX11_back_16 : decode cX11_back 16 = .ok (.ireturn, 1) := by decide +kernel
theorem dX11_back_17 : decode cX11_back 17 = .ok (.aload_n 0, 1) := by decide +kernel
theorem dX11_back_18 : decode cX11_back 18 = .ok (.getfield 52, 3) := by decide +kernel
theorem dX11_back_21 : decode cX11_back 21 = .ok (.aload_n 0, 1) := by decide +kernel
theorem dX11_back_22 : decode cX11_back 22 = .ok (.getfield 48, 3) := by decide +kernel
theorem dX11_back_25 : decode cX11_back 25 = .ok (.invokevirtual 84, 3) := by decide +kernel
theorem dX11_back_28 : decode cX11_back 28 = .ok (.aload_n 0, 1) := by decide +kernel
theorem dX11_back_29 : decode cX11_back 29 = .ok (.iconst 1, 1) := by decide +kernel
theorem dX11_back_30 : decode cX11_back 30 = .ok (.iload_n 1, 1) := by decide +kernel
theorem dX11_back_31 : decode cX11_back 31 = .ok (.ishl, 1) := by decide +kernel
theorem dX11_back_32 : decode cX11_back 32 = .ok (.iconst 1, 1) := by decide +kernel
theorem dX11_back_33 : decode cX11_back 33 = .ok (.iload_n 2, 1) := by decide +kernel
theorem dX11_back_34 : decode cX11_back 34 = .ok (.ishl, 1) := by decide +kernel
theorem dX11_back_35 : decode cX11_back 35 = .ok (.bipush 40, 2) := by decide +kernel
theorem dX11_back_37 : decode cX11_back 37 = .ok (.invokevirtual 182, 3) := by decide +kernel
theorem dX11_back_40 : decode cX11_back 40 = .ok (.istore 4, 2) := by decide +kernel
theorem dX11_back_42 : decode cX11_back 42 = .ok (.iload 4, 2) := by decide +kernel
theorem dX11_back_44 : decode cX11_back 44 = .ok (.bipush (-9), 2) := by decide +kernel
theorem dX11_back_46 : decode cX11_back 46 = .ok (.if_icmp .ne 6, 3) := by decide +kernel
theorem dX11_back_49 : decode cX11_back 49 = .ok (.bipush (-9), 2) := by decide +kernel
theorem dX11_back_51 : decode cX11_back 51 = .ok (.ireturn, 1) := by decide +kernel
theorem dX11_back_52 : decode cX11_back 52 = .ok (.aload_n 0, 1) := by decide +kernel
theorem dX11_back_53 : decode cX11_back 53 = .ok (.iconst 1, 1) := by decide +kernel
theorem dX11_back_54 : decode cX11_back 54 = .ok (.iload_n 2, 1) := by decide +kernel
theorem dX11_back_55 : decode cX11_back 55 = .ok (.ishl, 1) := by decide +kernel
theorem dX11_back_56 : decode cX11_back 56 = .ok (.iconst 1, 1) := by decide +kernel
theorem dX11_back_57 : decode cX11_back 57 = .ok (.iload_n 1, 1) := by decide +kernel
theorem dX11_back_58 : decode cX11_back 58 = .ok (.ishl, 1) := by decide +kernel
theorem dX11_back_59 : decode cX11_back 59 = .ok (.bipush 40, 2) := by decide +kernel
theorem dX11_back_61 : decode cX11_back 61 = .ok (.iload 4, 2) := by decide +kernel
theorem dX11_back_63 : decode cX11_back 63 = .ok (.isub, 1) := by decide +kernel
theorem dX11_back_64 : decode cX11_back 64 = .ok (.invokevirtual 182, 3) := by decide +kernel
theorem dX11_back_67 : decode cX11_back 67 = .ok (.istore 5, 2) := by decide +kernel
theorem dX11_back_69 : decode cX11_back 69 = .ok (.iload 5, 2) := by decide +kernel
theorem dX11_back_71 : decode cX11_back 71 = .ok (.bipush (-9), 2) := by decide +kernel
theorem dX11_back_73 : decode cX11_back 73 = .ok (.if_icmp .ne 8, 3) := by decide +kernel
theorem dX11_back_76 : decode cX11_back 76 = .ok (.bipush (-9), 2) := by decide +kernel
theorem dX11_back_78 : decode cX11_back 78 = .ok (.goto 8, 3) := by decide +kernel
theorem dX11_back_81 : decode cX11_back 81 = .ok (.iload 4, 2) := by decide +kernel
theorem dX11_back_83 : decode cX11_back 83 = .ok (.iload 5, 2) := by decide +kernel
theorem dX11_back_85 : decode cX11_back 85 = .ok (.iadd, 1) := by decide +kernel
theorem dX11_back_86 : decode cX11_back 86 = .ok (.ireturn, 1) := by decide +kernel
theorem dX11_news_0 : decode cX11_news 0 = .ok (.aload_n 0, 1) := by decide +kernel
theorem dX11_news_1 : decode cX11_news 1 = .ok (.iload_n 1, 1) := by decide +kernel
theorem dX11_news_2 : decode cX11_news 2 = .ok (.invokevirtual 92, 3) := by decide +kernel
theorem dX11_news_5 : decode cX11_news 5 = .ok (.istore_n 2, 1) := by decide +kernel
theorem dX11_news_6 : decode cX11_news 6 = .ok (.iload_n 2, 1) := by decide +kernel
theorem dX11_news_7 : decode cX11_news 7 = .ok (.ifCond .eq 9, 3) := by decide +kernel
theorem dX11_news_10 : decode cX11_news 10 = .ok (.aload_n 0, 1) := by decide +kernel
theorem dX11_news_11 : decode cX11_news 11 = .ok (.iload_n 2, 1) := by decide +kernel
theorem dX11_news_12 : decode cX11_news 12 = .ok (.invokevirtual 72, 3) := by decide +kernel
theorem dX11_news_15 : decode cX11_news 15 = .ok (.ireturn, 1) := by decide +kernel
theorem dX11_news_16 : decode cX11_news 16 = .ok (.aload_n 0, 1) := by decide +kernel
theorem dX11_news_17 : decode cX11_news 17 = .ok (.getfield 52, 3) := by decide +kernel
theorem dX11_news_20 : decode cX11_news 20 = .ok (.aload_n 0, 1) := by decide +kernel
theorem dX11_news_21 : decode cX11_news 21 = .ok (.getfield 48, 3) := by decide +kernel
theorem dX11_news_24 : decode cX11_news 24 = .ok (.invokevirtual 84, 3) := by decide +kernel
theorem dX11_news_27 : decode cX11_news 27 = .ok (.aload_n 0, 1) := by decide +kernel
theorem dX11_news_28 : decode cX11_news 28 = .ok (.iconst 1, 1) := by decide +kernel
theorem dX11_news_29 : decode cX11_news 29 = .ok (.iload_n 1, 1) := by decide +kernel
theorem dX11_news_30 : decode cX11_news 30 = .ok (.ishl, 1) := by decide +kernel
theorem dX11_news_31 : decode cX11_news 31 = .ok (.aload_n 0, 1) := by decide +kernel
theorem dX11_news_32 : decode cX11_news 32 = .ok (.getfield 48, 3) := by decide +kernel
theorem dX11_news_35 : decode cX11_news 35 = .ok (.invokevirtual 185, 3) := by decide +kernel
theorem dX11_news_38 : decode cX11_news 38 = .ok (.bipush 40, 2) := by decide +kernel
theorem dX11_news_40 : decode cX11_news 40 = .ok (.invokevirtual 182, 3) := by decide +kernel
theorem dX11_news_43 : decode cX11_news 43 = .ok (.ireturn, 1) := by decide +kernel
theorem dX11_know_0 : decode cX11_know 0 = .ok (.aload_n 0, 1) := by decide +kernel
theorem dX11_know_1 : decode cX11_know 1 = .ok (.iload_n 1, 1) := by decide +kernel
theorem dX11_know_2 : decode cX11_know 2 = .ok (.invokevirtual 92, 3) := by decide +kernel
theorem dX11_know_5 : decode cX11_know 5 = .ok (.iload_n 2, 1) := by decide +kernel
theorem dX11_know_6 : decode cX11_know 6 = .ok (.iconst 0, 1) := by decide +kernel
theorem dX11_know_7 : decode cX11_know 7 = .ok (.bipush 40, 2) := by decide +kernel
theorem dX11_know_9 : decode cX11_know 9 = .ok (.invokestatic 148, 3) := by decide +kernel
theorem dX11_know_12 : decode cX11_know 12 = .ok (.invokestatic 99, 3) := by decide +kernel
theorem dX11_know_15 : decode cX11_know 15 = .ok (.istore_n 3, 1) := by decide +kernel
theorem dX11_know_16 : decode cX11_know 16 = .ok (.iload_n 3, 1) := by decide +kernel
theorem dX11_know_17 : decode cX11_know 17 = .ok (.ifCond .eq 9, 3) := by decide +kernel
theorem dX11_know_20 : decode cX11_know 20 = .ok (.aload_n 0, 1) := by decide +kernel
theorem dX11_know_21 : decode cX11_know 21 = .ok (.iload_n 3, 1) := by decide +kernel
theorem dX11_know_22 : decode cX11_know 22 = .ok (.invokevirtual 72, 3) := by decide +kernel
theorem dX11_know_25 : decode cX11_know 25 = .ok (.ireturn, 1) := by decide +kernel
theorem dX11_know_26 : decode cX11_know 26 = .ok (.aload_n 0, 1) := by decide +kernel
theorem dX11_know_27 : decode cX11_know 27 = .ok (.getfield 52, 3) := by decide +kernel
theorem dX11_know_30 : decode cX11_know 30 = .ok (.aload_n 0, 1) := by decide +kernel
theorem dX11_know_31 : decode cX11_know 31 = .ok (.getfield 48, 3) := by decide +kernel
theorem dX11_know_34 : decode cX11_know 34 = .ok (.invokevirtual 84, 3) := by decide +kernel
theorem dX11_know_37 : decode cX11_know 37 = .ok (.iconst 1, 1) := by decide +kernel
theorem dX11_know_38 : decode cX11_know 38 = .ok (.iload_n 1, 1) := by decide +kernel
theorem dX11_know_39 : decode cX11_know 39 = .ok (.ishl, 1) := by decide +kernel
theorem dX11_know_40 : decode cX11_know 40 = .ok (.istore 4, 2) := by decide +kernel
theorem dX11_know_42 : decode cX11_know 42 = .ok (.iconst 0, 1) := by decide +kernel
theorem dX11_know_43 : decode cX11_know 43 = .ok (.istore 5, 2) := by decide +kernel
theorem dX11_know_45 : decode cX11_know 45 = .ok (.iload 5, 2) := by decide +kernel
theorem dX11_know_47 : decode cX11_know 47 = .ok (.iload_n 2, 1) := by decide +kernel
theorem dX11_know_48 : decode cX11_know 48 = .ok (.if_icmp .ge 29, 3) := by decide +kernel
theorem dX11_know_51 : decode cX11_know 51 = .ok (.aload_n 0, 1) := by decide +kernel
theorem dX11_know_52 : decode cX11_know 52 = .ok (.getfield 52, 3) := by decide +kernel
theorem dX11_know_55 : decode cX11_know 55 = .ok (.iload 4, 2) := by decide +kernel
theorem dX11_know_57 : decode cX11_know 57 = .ok (.invokevirtual 189, 3) := by decide +kernel
theorem dX11_know_60 : decode cX11_know 60 = .ok (.istore 4, 2) := by decide +kernel
theorem dX11_know_62 : decode cX11_know 62 = .ok (.aload_n 0, 1) := by decide +kernel
theorem dX11_know_63 : decode cX11_know 63 = .ok (.aload_n 0, 1) := by decide +kernel
theorem dX11_know_64 : decode cX11_know 64 = .ok (.getfield 52, 3) := by decide +kernel
theorem dX11_know_67 : decode cX11_know 67 = .ok (.invokevirtual 166, 3) := by decide +kernel
theorem dX11_know_70 : decode cX11_know 70 = .ok (.pop, 1) := by decide +kernel
theorem dX11_know_71 : decode cX11_know 71 = .ok (.iinc 5 1, 3) := by decide +kernel
theorem dX11_know_74 : decode cX11_know 74 = .ok (.goto (-29), 3) := by decide +kernel
theorem dX11_know_77 : decode cX11_know 77 = .ok (.iload 4, 2) := by decide +kernel
theorem dX11_know_79 : decode cX11_know 79 = .ok (.ireturn, 1) := by decide +kernel
theorem dX11_lost_0 : decode cX11_lost 0 = .ok (.iconst 0, 1) := by decide +kernel
theorem dX11_lost_1 : decode cX11_lost 1 = .ok (.istore_n 1, 1) := by decide +kernel
theorem dX11_lost_2 : decode cX11_lost 2 = .ok (.iconst 0, 1) := by decide +kernel
theorem dX11_lost_3 : decode cX11_lost 3 = .ok (.istore_n 2, 1) := by decide +kernel
theorem dX11_lost_4 : decode cX11_lost 4 = .ok (.iload_n 2, 1) := by decide +kernel
theorem dX11_lost_5 : decode cX11_lost 5 = .ok (.aload_n 0, 1) := by decide +kernel
theorem dX11_lost_6 : decode cX11_lost 6 = .ok (.getfield 48, 3) := by decide +kernel
theorem dX11_lost_9 : decode cX11_lost 9 = .ok (.getfield 192, 3) := by decide +kernel
theorem dX11_lost_12 : decode cX11_lost 12 = .ok (.if_icmp .ge 26, 3) := by decide +kernel
theorem dX11_lost_15 : decode cX11_lost 15 = .ok (.aload_n 0, 1) := by decide +kernel
theorem dX11_lost_16 : decode cX11_lost 16 = .ok (.getfield 48, 3) := by decide +kernel
theorem dX11_lost_19 : decode cX11_lost 19 = .ok (.iload_n 2, 1) := by decide +kernel
theorem dX11_lost_20 : decode cX11_lost 20 = .ok (.invokevirtual 195, 3) := by decide +kernel
theorem dX11_lost_23 : decode cX11_lost 23 = .ok (.ifCond .ne 9, 3) := by decide +kernel
theorem dX11_lost_26 : decode cX11_lost 26 = .ok (.iload_n 1, 1) := by decide +kernel
theorem dX11_lost_27 : decode cX11_lost 27 = .ok (.iconst 1, 1) := by decide +kernel
theorem dX11_lost_28 : decode cX11_lost 28 = .ok (.iload_n 2, 1) := by decide +kernel
theorem dX11_lost_29 : decode cX11_lost 29 = .ok (.ishl, 1) := by decide +kernel
theorem dX11_lost_30 : decode cX11_lost 30 = .ok (.ior, 1) := by decide +kernel
theorem dX11_lost_31 : decode cX11_lost 31 = .ok (.istore_n 1, 1) := by decide +kernel
theorem dX11_lost_32 : decode cX11_lost 32 = .ok (.iinc 2 1, 3) := by decide +kernel
theorem dX11_lost_35 : decode cX11_lost 35 = .ok (.goto (-31), 3) := by decide +kernel
theorem dX11_lost_38 : decode cX11_lost 38 = .ok (.iload_n 1, 1) := by decide +kernel
theorem dX11_lost_39 : decode cX11_lost 39 = .ok (.ireturn, 1) := by decide +kernel
theorem dX11_groups_0 : decode cX11_groups 0 = .ok (.iconst 0, 1) := by decide +kernel
theorem dX11_groups_1 : decode cX11_groups 1 = .ok (.istore_n 1, 1) := by decide +kernel
theorem dX11_groups_2 : decode cX11_groups 2 = .ok (.iconst 0, 1) := by decide +kernel
theorem dX11_groups_3 : decode cX11_groups 3 = .ok (.istore_n 2, 1) := by decide +kernel
theorem dX11_groups_4 : decode cX11_groups 4 = .ok (.iconst 0, 1) := by decide +kernel
theorem dX11_groups_5 : decode cX11_groups 5 = .ok (.istore_n 3, 1) := by decide +kernel
theorem dX11_groups_6 : decode cX11_groups 6 = .ok (.iload_n 3, 1) := by decide +kernel
theorem dX11_groups_7 : decode cX11_groups 7 = .ok (.aload_n 0, 1) := by decide +kernel
theorem dX11_groups_8 : decode cX11_groups 8 = .ok (.getfield 48, 3) := by decide +kernel
theorem dX11_groups_11 : decode cX11_groups 11 = .ok (.getfield 192, 3) := by decide +kernel
theorem dX11_groups_14 : decode cX11_groups 14 = .ok (.if_icmp .ge 31, 3) := by decide +kernel
theorem dX11_groups_17 : decode cX11_groups 17 = .ok (.iload_n 1, 1) := by decide +kernel
theorem dX11_groups_18 : decode cX11_groups 18 = .ok (.iconst 1, 1) := by decide +kernel
theorem dX11_groups_19 : decode cX11_groups 19 = .ok (.iload_n 3, 1) := by decide +kernel
theorem dX11_groups_20 : decode cX11_groups 20 = .ok (.ishl, 1) := by decide +kernel
theorem dX11_groups_21 : decode cX11_groups 21 = .ok (.iand, 1) := by decide +kernel
theorem dX11_groups_22 : decode cX11_groups 22 = .ok (.ifCond .ne 17, 3) := by decide +kernel
theorem dX11_groups_25 : decode cX11_groups 25 = .ok (.iload_n 1, 1) := by decide +kernel
theorem dX11_groups_26 : decode cX11_groups 26 = .ok (.aload_n 0, 1) := by decide +kernel
theorem dX11_groups_27 : decode cX11_groups 27 = .ok (.getfield 48, 3) := by decide +kernel
theorem dX11_groups_30 : decode cX11_groups 30 = .ok (.iload_n 3, 1) := by decide +kernel
theorem dX11_groups_31 : decode cX11_groups 31 = .ok (.invokevirtual 198, 3) := by decide +kernel
theorem dX11_groups_34 : decode cX11_groups 34 = .ok (.ior, 1) := by decide +kernel
theorem dX11_groups_35 : decode cX11_groups 35 = .ok (.istore_n 1, 1) := by decide +kernel
theorem dX11_groups_36 : decode cX11_groups 36 = .ok (.iinc 2 1, 3) := by decide +kernel
theorem dX11_groups_39 : decode cX11_groups 39 = .ok (.iinc 3 1, 3) := by decide +kernel
theorem dX11_groups_42 : decode cX11_groups 42 = .ok (.goto (-36), 3) := by decide +kernel
theorem dX11_groups_45 : decode cX11_groups 45 = .ok (.iload_n 2, 1) := by decide +kernel
theorem dX11_groups_46 : decode cX11_groups 46 = .ok (.ireturn, 1) := by decide +kernel
theorem dX11_hungry_0 : decode cX11_hungry 0 = .ok (.iload_n 1, 1) := by decide +kernel
theorem dX11_hungry_1 : decode cX11_hungry 1 = .ok (.iconst 0, 1) := by decide +kernel
theorem dX11_hungry_2 : decode cX11_hungry 2 = .ok (.bipush 60, 2) := by decide +kernel
theorem dX11_hungry_4 : decode cX11_hungry 4 = .ok (.invokestatic 148, 3) := by decide +kernel
theorem dX11_hungry_7 : decode cX11_hungry 7 = .ok (.istore_n 2, 1) := by decide +kernel
theorem dX11_hungry_8 : decode cX11_hungry 8 = .ok (.iload_n 2, 1) := by decide +kernel
theorem dX11_hungry_9 : decode cX11_hungry 9 = .ok (.ifCond .eq 11, 3) := by decide +kernel
theorem dX11_hungry_12 : decode cX11_hungry 12 = .ok (.aload_n 0, 1) := by decide +kernel
theorem dX11_hungry_13 : decode cX11_hungry 13 = .ok (.iload_n 2, 1) := by decide +kernel
theorem dX11_hungry_14 : decode cX11_hungry 14 = .ok (.invokevirtual 72, 3) := by decide +kernel
theorem dX11_hungry_17 : decode cX11_hungry 17 = .ok (.goto 11, 3) := by decide +kernel
theorem dX11_hungry_20 : decode cX11_hungry 20 = .ok (.aload_n 0, 1) := by decide +kernel
theorem dX11_hungry_21 : decode cX11_hungry 21 = .ok (.getfield 48, 3) := by decide +kernel
theorem dX11_hungry_24 : decode cX11_hungry 24 = .ok (.iload_n 1, 1) := by decide +kernel
theorem dX11_hungry_25 : decode cX11_hungry 25 = .ok (.invokevirtual 201, 3) := by decide +kernel
theorem dX11_hungry_28 : decode cX11_hungry 28 = .ok (.ireturn, 1) := by decide +kernel
theorem dX11_lasts_0 : decode cX11_lasts 0 = .ok (.aload_n 0, 1) := by decide +kernel
theorem dX11_lasts_1 : decode cX11_lasts 1 = .ok (.iload_n 1, 1) := by decide +kernel
theorem dX11_lasts_2 : decode cX11_lasts 2 = .ok (.invokevirtual 92, 3) := by decide +kernel
theorem dX11_lasts_5 : decode cX11_lasts 5 = .ok (.istore_n 2, 1) := by decide +kernel
theorem dX11_lasts_6 : decode cX11_lasts 6 = .ok (.iload_n 2, 1) := by decide +kernel
theorem dX11_lasts_7 : decode cX11_lasts 7 = .ok (.ifCond .eq 9, 3) := by decide +kernel
theorem dX11_lasts_10 : decode cX11_lasts 10 = .ok (.aload_n 0, 1) := by decide +kernel
theorem dX11_lasts_11 : decode cX11_lasts 11 = .ok (.iload_n 2, 1) := by decide +kernel
theorem dX11_lasts_12 : decode cX11_lasts 12 = .ok (.invokevirtual 72, 3) := by decide +kernel
theorem dX11_lasts_15 : decode cX11_lasts 15 = .ok (.ireturn, 1) := by decide +kernel
theorem dX11_lasts_16 : decode cX11_lasts 16 = .ok (.aload_n 0, 1) := by decide +kernel
theorem dX11_lasts_17 : decode cX11_lasts 17 = .ok (.getfield 48, 3) := by decide +kernel
theorem dX11_lasts_20 : decode cX11_lasts 20 = .ok (.getfield 102, 3) := by decide +kernel
theorem dX11_lasts_23 : decode cX11_lasts 23 = .ok (.iload_n 1, 1) := by decide +kernel
theorem dX11_lasts_24 : decode cX11_lasts 24 = .ok (.aaload, 1) := by decide +kernel
theorem dX11_lasts_25 : decode cX11_lasts 25 = .ok (.astore_n 3, 1) := by decide +kernel
theorem dX11_lasts_26 : decode cX11_lasts 26 = .ok (.aload_n 3, 1) := by decide +kernel
theorem dX11_lasts_27 : decode cX11_lasts 27 = .ok (.getfield 114, 3) := by decide +kernel
theorem dX11_lasts_30 : decode cX11_lasts 30 = .ok (.ifCond .gt 8, 3) := by decide +kernel
theorem dX11_lasts_33 : decode cX11_lasts 33 = .ok (.bipush 99, 2) := by decide +kernel
theorem dX11_lasts_35 : decode cX11_lasts 35 = .ok (.goto 17, 3) := by decide +kernel
theorem dX11_lasts_38 : decode cX11_lasts 38 = .ok (.bipush 99, 2) := by decide +kernel
theorem dX11_lasts_40 : decode cX11_lasts 40 = .ok (.aload_n 3, 1) := by decide +kernel
theorem dX11_lasts_41 : decode cX11_lasts 41 = .ok (.getfield 117, 3) := by decide +kernel
theorem dX11_lasts_44 : decode cX11_lasts 44 = .ok (.aload_n 3, 1) := by decide +kernel
theorem dX11_lasts_45 : decode cX11_lasts 45 = .ok (.getfield 114, 3) := by decide +kernel
theorem dX11_lasts_48 : decode cX11_lasts 48 = .ok (.idiv, 1) := by decide +kernel
theorem dX11_lasts_49 : decode cX11_lasts 49 = .ok (.invokestatic 161, 3) := by decide +kernel
theorem dX11_lasts_52 : decode cX11_lasts 52 = .ok (.ireturn, 1) := by decide +kernel
theorem dX11_share_0 : decode cX11_share 0 = .ok (.aload_n 0, 1) := by decide +kernel
theorem dX11_share_1 : decode cX11_share 1 = .ok (.iload_n 1, 1) := by decide +kernel
theorem dX11_share_2 : decode cX11_share 2 = .ok (.iload_n 2, 1) := by decide +kernel
theorem dX11_share_3 : decode cX11_share 3 = .ok (.invokevirtual 172, 3) := by decide +kernel
theorem dX11_share_6 : decode cX11_share 6 = .ok (.istore_n 3, 1) := by decide +kernel
theorem dX11_share_7 : decode cX11_share 7 = .ok (.iload_n 3, 1) := by decide +kernel
theorem dX11_share_8 : decode cX11_share 8 = .ok (.ifCond .eq 9, 3) := by decide +kernel
theorem dX11_share_11 : decode cX11_share 11 = .ok (.aload_n 0, 1) := by decide +kernel
theorem dX11_share_12 : decode cX11_share 12 = .ok (.iload_n 3, 1) := by decide +kernel
theorem dX11_share_13 : decode cX11_share 13 = .ok (.invokevirtual 72, 3) := by decide +kernel
theorem dX11_share_16 : decode cX11_share 16 = .ok (.ireturn, 1) := by decide +kernel
theorem dX11_share_17 : decode cX11_share 17 = .ok (.aload_n 0, 1) := by decide +kernel
theorem dX11_share_18 : decode cX11_share 18 = .ok (.getfield 48, 3) := by decide +kernel
theorem dX11_share_21 : decode cX11_share 21 = .ok (.iload_n 1, 1) := by decide +kernel
theorem dX11_share_22 : decode cX11_share 22 = .ok (.iload_n 2, 1) := by decide +kernel
theorem dX11_share_23 : decode cX11_share 23 = .ok (.invokevirtual 175, 3) := by decide +kernel
theorem dX11_share_26 : decode cX11_share 26 = .ok (.iconst 1, 1) := by decide +kernel
theorem dX11_share_27 : decode cX11_share 27 = .ok (.if_icmp .le 10, 3) := by decide +kernel
theorem dX11_share_30 : decode cX11_share 30 = .ok (.aload_n 0, 1) := by decide +kernel
theorem dX11_share_31 : decode cX11_share 31 = .ok (.bipush (-3), 2) := by decide +kernel
theorem dX11_share_33 : decode cX11_share 33 = .ok (.invokevirtual 72, 3) := by decide +kernel
theorem dX11_share_36 : decode cX11_share 36 = .ok (.ireturn, 1) := by decide +kernel
theorem dX11_share_37 : decode cX11_share 37 = .ok (.aload_n 0, 1) := by decide +kernel
theorem dX11_share_38 : decode cX11_share 38 = .ok (.getfield 48, 3) := by decide +kernel
theorem dX11_share_41 : decode cX11_share 41 = .ok (.getfield 102, 3) := by decide +kernel
theorem dX11_share_44 : decode cX11_share 44 = .ok (.iload_n 1, 1) := by decide +kernel
theorem dX11_share_45 : decode cX11_share 45 = .ok (.aaload, 1) := by decide +kernel
theorem dX11_share_46 : decode cX11_share 46 = .ok (.aload_n 0, 1) := by decide +kernel
theorem dX11_share_47 : decode cX11_share 47 = .ok (.getfield 48, 3) := by decide +kernel
theorem dX11_share_50 : decode cX11_share 50 = .ok (.getfield 102, 3) := by decide +kernel
theorem dX11_share_53 : decode cX11_share 53 = .ok (.iload_n 2, 1) := by decide +kernel
theorem dX11_share_54 : decode cX11_share 54 = .ok (.aaload, 1) := by decide +kernel
theorem dX11_share_55 : decode cX11_share 55 = .ok (.invokestatic 204, 3) := by decide +kernel
theorem dX11_share_58 : decode cX11_share 58 = .ok (.aload_n 0, 1) := by decide +kernel
theorem dX11_share_59 : decode cX11_share 59 = .ok (.getfield 48, 3) := by decide +kernel
theorem dX11_share_62 : decode cX11_share 62 = .ok (.getfield 102, 3) := by decide +kernel
theorem dX11_share_65 : decode cX11_share 65 = .ok (.iload_n 1, 1) := by decide +kernel
theorem dX11_share_66 : decode cX11_share 66 = .ok (.aaload, 1) := by decide +kernel
theorem dX11_share_67 : decode cX11_share 67 = .ok (.getfield 117, 3) := by decide +kernel
theorem dX11_share_70 : decode cX11_share 70 = .ok (.ireturn, 1) := by decide +kernel
theorem dX11_givenUp_0 : decode cX11_givenUp 0 = .ok (.iload_n 1, 1) := by decide +kernel
theorem dX11_givenUp_1 : decode cX11_givenUp 1 = .ok (.iconst 0, 1) := by decide +kernel
theorem dX11_givenUp_2 : decode cX11_givenUp 2 = .ok (.bipush 60, 2) := by decide +kernel
theorem dX11_givenUp_4 : decode cX11_givenUp 4 = .ok (.invokestatic 148, 3) := by decide +kernel
theorem dX11_givenUp_7 : decode cX11_givenUp 7 = .ok (.iload_n 2, 1) := by decide +kernel
theorem dX11_givenUp_8 : decode cX11_givenUp 8 = .ok (.iconst 1, 1) := by decide +kernel
theorem dX11_givenUp_9 : decode cX11_givenUp 9 = .ok (.invokestatic 95, 3) := by decide +kernel
theorem dX11_givenUp_12 : decode cX11_givenUp 12 = .ok (.invokestatic 99, 3) := by decide +kernel
theorem dX11_givenUp_15 : decode cX11_givenUp 15 = .ok (.istore_n 3, 1) := by decide +kernel
theorem dX11_givenUp_16 : decode cX11_givenUp 16 = .ok (.iload_n 3, 1) := by decide +kernel
theorem dX11_givenUp_17 : decode cX11_givenUp 17 = .ok (.ifCond .eq 9, 3) := by decide +kernel
theorem dX11_givenUp_20 : decode cX11_givenUp 20 = .ok (.aload_n 0, 1) := by decide +kernel
theorem dX11_givenUp_21 : decode cX11_givenUp 21 = .ok (.iload_n 3, 1) := by decide +kernel
theorem dX11_givenUp_22 : decode cX11_givenUp 22 = .ok (.invokevirtual 72, 3) := by decide +kernel
theorem dX11_givenUp_25 : decode cX11_givenUp 25 = .ok (.ireturn, 1) := by decide +kernel
theorem dX11_givenUp_26 : decode cX11_givenUp 26 = .ok (.aload_n 0, 1) := by decide +kernel
theorem dX11_givenUp_27 : decode cX11_givenUp 27 = .ok (.getfield 48, 3) := by decide +kernel
theorem dX11_givenUp_30 : decode cX11_givenUp 30 = .ok (.getfield 192, 3) := by decide +kernel
theorem dX11_givenUp_33 : decode cX11_givenUp 33 = .ok (.iconst 2, 1) := by decide +kernel
theorem dX11_givenUp_34 : decode cX11_givenUp 34 = .ok (.if_icmp .ge 6, 3) := by decide +kernel
theorem dX11_givenUp_37 : decode cX11_givenUp 37 = .ok (.bipush (-9), 2) := by decide +kernel
theorem dX11_givenUp_39 : decode cX11_givenUp 39 = .ok (.ireturn, 1) := by decide +kernel
theorem dX11_givenUp_40 : decode cX11_givenUp 40 = .ok (.iconst 0, 1) := by decide +kernel
theorem dX11_givenUp_41 : decode cX11_givenUp 41 = .ok (.istore 4, 2) := by decide +kernel
theorem dX11_givenUp_43 : decode cX11_givenUp 43 = .ok (.aload_n 0, 1) := by decide +kernel
theorem dX11_givenUp_44 : decode cX11_givenUp 44 = .ok (.iconst 0, 1) := by decide +kernel
theorem dX11_givenUp_45 : decode cX11_givenUp 45 = .ok (.iload_n 1, 1) := by decide +kernel
theorem dX11_givenUp_46 : decode cX11_givenUp 46 = .ok (.invokevirtual 208, 3) := by decide +kernel
theorem dX11_givenUp_49 : decode cX11_givenUp 49 = .ok (.istore 5, 2) := by decide +kernel
theorem dX11_givenUp_51 : decode cX11_givenUp 51 = .ok (.iconst 1, 1) := by decide +kernel
theorem dX11_givenUp_52 : decode cX11_givenUp 52 = .ok (.istore 6, 2) := by decide +kernel
theorem dX11_givenUp_54 : decode cX11_givenUp 54 = .ok (.iload 6, 2) := by decide +kernel
theorem dX11_givenUp_56 : decode cX11_givenUp 56 = .ok (.aload_n 0, 1) := by decide +kernel
theorem dX11_givenUp_57 : decode cX11_givenUp 57 = .ok (.getfield 48, 3) := by decide +kernel
theorem dX11_givenUp_60 : decode cX11_givenUp 60 = .ok (.getfield 192, 3) := by decide +kernel
theorem dX11_givenUp_63 : decode cX11_givenUp 63 = .ok (.if_icmp .ge 33, 3) := by decide +kernel
theorem dX11_givenUp_66 : decode cX11_givenUp 66 = .ok (.aload_n 0, 1) := by decide +kernel
theorem dX11_givenUp_67 : decode cX11_givenUp 67 = .ok (.iload 6, 2) := by decide +kernel
theorem dX11_givenUp_69 : decode cX11_givenUp 69 = .ok (.iload_n 1, 1) := by decide +kernel
theorem dX11_givenUp_70 : decode cX11_givenUp 70 = .ok (.invokevirtual 208, 3) := by decide +kernel
theorem dX11_givenUp_73 : decode cX11_givenUp 73 = .ok (.istore 7, 2) := by decide +kernel
theorem dX11_givenUp_75 : decode cX11_givenUp 75 = .ok (.iload 7, 2) := by decide +kernel
theorem dX11_givenUp_77 : decode cX11_givenUp 77 = .ok (.iload 5, 2) := by decide +kernel
theorem dX11_givenUp_79 : decode cX11_givenUp 79 = .ok (.if_icmp .ge 11, 3) := by decide +kernel
theorem dX11_givenUp_82 : decode cX11_givenUp 82 = .ok (.iload 7, 2) := by decide +kernel
theorem dX11_givenUp_84 : decode cX11_givenUp 84 = .ok (.istore 5, 2) := by decide +kernel
theorem dX11_givenUp_86 : decode cX11_givenUp 86 = .ok (.iload 6, 2) := by decide +kernel
theorem dX11_givenUp_88 : decode cX11_givenUp 88 = .ok (.istore 4, 2) := by decide +kernel
theorem dX11_givenUp_90 : decode cX11_givenUp 90 = .ok (.iinc 6 1, 3) := by decide +kernel
theorem dX11_givenUp_93 : decode cX11_givenUp 93 = .ok (.goto (-39), 3) := by decide +kernel
theorem dX11_givenUp_96 : decode cX11_givenUp 96 = .ok (.iload_n 2, 1) := by decide +kernel
theorem dX11_givenUp_97 : decode cX11_givenUp 97 = .ok (.ifCond .ne 8, 3) := by decide +kernel
theorem dX11_givenUp_100 : decode cX11_givenUp 100 = .ok (.iload 4, 2) := by decide +kernel
theorem dX11_givenUp_102 : decode cX11_givenUp 102 = .ok (.goto 5, 3) := by decide +kernel
theorem dX11_givenUp_105 : decode cX11_givenUp 105 = .ok (.iload 5, 2) := by decide +kernel
theorem dX11_givenUp_107 : decode cX11_givenUp 107 = .ok (.ireturn, 1) := by decide +kernel
theorem dX11_home_0 : decode cX11_home 0 = .ok (.iload_n 1, 1) := by decide +kernel
theorem dX11_home_1 : decode cX11_home 1 = .ok (.iload_n 2, 1) := by decide +kernel
theorem dX11_home_2 : decode cX11_home 2 = .ok (.sipush (-9999), 3) := by decide +kernel
theorem dX11_home_5 : decode cX11_home 5 = .ok (.sipush 9999, 3) := by decide +kernel
theorem dX11_home_8 : decode cX11_home 8 = .ok (.invokestatic 138, 3) := by decide +kernel
theorem dX11_home_11 : decode cX11_home 11 = .ok (.istore 5, 2) := by decide +kernel
theorem dX11_home_13 : decode cX11_home 13 = .ok (.iload_n 3, 1) := by decide +kernel
theorem dX11_home_14 : decode cX11_home 14 = .ok (.iconst 0, 1) := by decide +kernel
theorem dX11_home_15 : decode cX11_home 15 = .ok (.bipush 60, 2) := by decide +kernel
theorem dX11_home_17 : decode cX11_home 17 = .ok (.invokestatic 148, 3) := by decide +kernel
theorem dX11_home_20 : decode cX11_home 20 = .ok (.iload 5, 2) := by decide +kernel
theorem dX11_home_22 : decode cX11_home 22 = .ok (.invokestatic 211, 3) := by decide +kernel
theorem dX11_home_25 : decode cX11_home 25 = .ok (.iload 4, 2) := by decide +kernel
theorem dX11_home_27 : decode cX11_home 27 = .ok (.iconst 2, 1) := by decide +kernel
theorem dX11_home_28 : decode cX11_home 28 = .ok (.invokestatic 95, 3) := by decide +kernel
theorem dX11_home_31 : decode cX11_home 31 = .ok (.invokestatic 99, 3) := by decide +kernel
theorem dX11_home_34 : decode cX11_home 34 = .ok (.istore 6, 2) := by decide +kernel
theorem dX11_home_36 : decode cX11_home 36 = .ok (.iload 6, 2) := by decide +kernel
theorem dX11_home_38 : decode cX11_home 38 = .ok (.ifCond .eq 10, 3) := by decide +kernel
theorem dX11_home_41 : decode cX11_home 41 = .ok (.aload_n 0, 1) := by decide +kernel
theorem dX11_home_42 : decode cX11_home 42 = .ok (.iload 6, 2) := by decide +kernel
theorem dX11_home_44 : decode cX11_home 44 = .ok (.invokevirtual 72, 3) := by decide +kernel
theorem dX11_home_47 : decode cX11_home 47 = .ok (.ireturn, 1) := by decide +kernel
theorem dX11_home_48 : decode cX11_home 48 = .ok (.aload_n 0, 1) := by decide +kernel
theorem dX11_home_49 : decode cX11_home 49 = .ok (.getfield 48, 3) := by decide +kernel
theorem dX11_home_52 : decode cX11_home 52 = .ok (.getfield 192, 3) := by decide +kernel
theorem dX11_home_55 : decode cX11_home 55 = .ok (.ifCond .ne 6, 3) := by decide +kernel
theorem dX11_home_58 : decode cX11_home 58 = .ok (.bipush (-9), 2) := by decide +kernel
theorem dX11_home_60 : decode cX11_home 60 = .ok (.ireturn, 1) := by decide +kernel
theorem dX11_home_61 : decode cX11_home 61 = .ok (.aload_n 0, 1) := by decide +kernel
theorem dX11_home_62 : decode cX11_home 62 = .ok (.getfield 52, 3) := by decide +kernel
theorem dX11_home_65 : decode cX11_home 65 = .ok (.aload_n 0, 1) := by decide +kernel
theorem dX11_home_66 : decode cX11_home 66 = .ok (.getfield 48, 3) := by decide +kernel
theorem dX11_home_69 : decode cX11_home 69 = .ok (.invokevirtual 84, 3) := by decide +kernel
theorem dX11_home_72 : decode cX11_home 72 = .ok (.aload_n 0, 1) := by decide +kernel
theorem dX11_home_73 : decode cX11_home 73 = .ok (.getfield 48, 3) := by decide +kernel
theorem dX11_home_76 : decode cX11_home 76 = .ok (.iload_n 1, 1) := by decide +kernel
theorem dX11_home_77 : decode cX11_home 77 = .ok (.iload_n 2, 1) := by decide +kernel
theorem dX11_home_78 : decode cX11_home 78 = .ok (.bipush (-9), 2) := by decide +kernel
theorem dX11_home_80 : decode cX11_home 80 = .ok (.invokevirtual 214, 3) := by decide +kernel
theorem dX11_home_83 : decode cX11_home 83 = .ok (.istore 7, 2) := by decide +kernel
theorem dX11_home_85 : decode cX11_home 85 = .ok (.iconst 0, 1) := by decide +kernel
theorem dX11_home_86 : decode cX11_home 86 = .ok (.istore 8, 2) := by decide +kernel
theorem dX11_home_88 : decode cX11_home 88 = .ok (.aload_n 0, 1) := by decide +kernel
theorem dX11_home_89 : decode cX11_home 89 = .ok (.getfield 48, 3) := by decide +kernel
theorem dX11_home_92 : decode cX11_home 92 = .ok (.iload 7, 2) := by decide +kernel
theorem dX11_home_94 : decode cX11_home 94 = .ok (.iload_n 1, 1) := by decide +kernel
theorem dX11_home_95 : decode cX11_home 95 = .ok (.iload_n 2, 1) := by decide +kernel
theorem dX11_home_96 : decode cX11_home 96 = .ok (.invokevirtual 217, 3) := by decide +kernel
theorem dX11_home_99 : decode cX11_home 99 = .ok (.istore 9, 2) := by decide +kernel
theorem dX11_home_101 : decode cX11_home 101 = .ok (.iconst 1, 1) := by decide +kernel
theorem dX11_home_102 : decode cX11_home 102 = .ok (.istore 10, 2) := by decide +kernel
theorem dX11_home_104 : decode cX11_home 104 = .ok (.iload 10, 2) := by decide +kernel
theorem dX11_home_106 : decode cX11_home 106 = .ok (.iload_n 3, 1) := by decide +kernel
theorem dX11_home_107 : decode cX11_home 107 = .ok (.if_icmp .gt 63, 3) := by decide +kernel
theorem dX11_home_110 : decode cX11_home 110 = .ok (.aload_n 0, 1) := by decide +kernel
theorem dX11_home_111 : decode cX11_home 111 = .ok (.aload_n 0, 1) := by decide +kernel
theorem dX11_home_112 : decode cX11_home 112 = .ok (.getfield 52, 3) := by decide +kernel
theorem dX11_home_115 : decode cX11_home 115 = .ok (.invokevirtual 166, 3) := by decide +kernel
theorem dX11_home_118 : decode cX11_home 118 = .ok (.pop, 1) := by decide +kernel
theorem dX11_home_119 : decode cX11_home 119 = .ok (.aload_n 0, 1) := by decide +kernel
theorem dX11_home_120 : decode cX11_home 120 = .ok (.getfield 52, 3) := by decide +kernel
theorem dX11_home_123 : decode cX11_home 123 = .ok (.iload_n 1, 1) := by decide +kernel
theorem dX11_home_124 : decode cX11_home 124 = .ok (.iload_n 2, 1) := by decide +kernel
theorem dX11_home_125 : decode cX11_home 125 = .ok (.bipush (-9), 2) := by decide +kernel
theorem dX11_home_127 : decode cX11_home 127 = .ok (.invokevirtual 214, 3) := by decide +kernel
theorem dX11_home_130 : decode cX11_home 130 = .ok (.istore 11, 2) := by decide +kernel
theorem dX11_home_132 : decode cX11_home 132 = .ok (.aload_n 0, 1) := by decide +kernel
theorem dX11_home_133 : decode cX11_home 133 = .ok (.getfield 52, 3) := by decide +kernel
theorem dX11_home_136 : decode cX11_home 136 = .ok (.iload 11, 2) := by decide +kernel
theorem dX11_home_138 : decode cX11_home 138 = .ok (.iload_n 1, 1) := by decide +kernel
theorem dX11_home_139 : decode cX11_home 139 = .ok (.iload_n 2, 1) := by decide +kernel
theorem dX11_home_140 : decode cX11_home 140 = .ok (.invokevirtual 217, 3) := by decide +kernel
theorem dX11_home_143 : decode cX11_home 143 = .ok (.istore 12, 2) := by decide +kernel
theorem dX11_home_145 : decode cX11_home 145 = .ok (.iload 12, 2) := by decide +kernel
theorem dX11_home_147 : decode cX11_home 147 = .ok (.iload 9, 2) := by decide +kernel
theorem dX11_home_149 : decode cX11_home 149 = .ok (.if_icmp .ge 15, 3) := by decide +kernel
theorem dX11_home_152 : decode cX11_home 152 = .ok (.iload 12, 2) := by decide +kernel
theorem dX11_home_154 : decode cX11_home 154 = .ok (.istore 9, 2) := by decide +kernel
theorem dX11_home_156 : decode cX11_home 156 = .ok (.iload 10, 2) := by decide +kernel
theorem dX11_home_158 : decode cX11_home 158 = .ok (.istore 8, 2) := by decide +kernel
theorem dX11_home_160 : decode cX11_home 160 = .ok (.iload 11, 2) := by decide +kernel
theorem dX11_home_162 : decode cX11_home 162 = .ok (.istore 7, 2) := by decide +kernel
theorem dX11_home_164 : decode cX11_home 164 = .ok (.iinc 10 1, 3) := by decide +kernel
theorem dX11_home_167 : decode cX11_home 167 = .ok (.goto (-63), 3) := by decide +kernel
theorem dX11_home_170 : decode cX11_home 170 = .ok (.iload 4, 2) := by decide +kernel
theorem dX11_home_172 : decode cX11_home 172 = .ok (.ifCond .ne 8, 3) := by decide +kernel
theorem dX11_home_175 : decode cX11_home 175 = .ok (.iload 7, 2) := by decide +kernel
theorem dX11_home_177 : decode cX11_home 177 = .ok (.goto 16, 3) := by decide +kernel
theorem dX11_home_180 : decode cX11_home 180 = .ok (.iload 4, 2) := by decide +kernel
theorem dX11_home_182 : decode cX11_home 182 = .ok (.iconst 1, 1) := by decide +kernel
theorem dX11_home_183 : decode cX11_home 183 = .ok (.if_icmp .ne 8, 3) := by decide +kernel
theorem dX11_home_186 : decode cX11_home 186 = .ok (.iload 8, 2) := by decide +kernel
theorem dX11_home_188 : decode cX11_home 188 = .ok (.goto 5, 3) := by decide +kernel
theorem dX11_home_191 : decode cX11_home 191 = .ok (.iload 9, 2) := by decide +kernel
theorem dX11_home_193 : decode cX11_home 193 = .ok (.ireturn, 1) := by decide +kernel
theorem dX11_kinds_0 : decode cX11_kinds 0 = .ok (.aload_n 0, 1) := by decide +kernel
theorem dX11_kinds_1 : decode cX11_kinds 1 = .ok (.iload_n 1, 1) := by decide +kernel
theorem dX11_kinds_2 : decode cX11_kinds 2 = .ok (.invokevirtual 92, 3) := by decide +kernel
theorem dX11_kinds_5 : decode cX11_kinds 5 = .ok (.iload_n 3, 1) := by decide +kernel
theorem dX11_kinds_6 : decode cX11_kinds 6 = .ok (.iconst 0, 1) := by decide +kernel
theorem dX11_kinds_7 : decode cX11_kinds 7 = .ok (.bipush 30, 2) := by decide +kernel
theorem dX11_kinds_9 : decode cX11_kinds 9 = .ok (.invokestatic 148, 3) := by decide +kernel
theorem dX11_kinds_12 : decode cX11_kinds 12 = .ok (.iload_n 2, 1) := by decide +kernel
theorem dX11_kinds_13 : decode cX11_kinds 13 = .ok (.iconst 0, 1) := by decide +kernel
theorem dX11_kinds_14 : decode cX11_kinds 14 = .ok (.bipush 9, 2) := by decide +kernel
theorem dX11_kinds_16 : decode cX11_kinds 16 = .ok (.invokestatic 148, 3) := by decide +kernel
theorem dX11_kinds_19 : decode cX11_kinds 19 = .ok (.invokestatic 211, 3) := by decide +kernel
theorem dX11_kinds_22 : decode cX11_kinds 22 = .ok (.invokestatic 99, 3) := by decide +kernel
theorem dX11_kinds_25 : decode cX11_kinds 25 = .ok (.istore 6, 2) := by decide +kernel
theorem dX11_kinds_27 : decode cX11_kinds 27 = .ok (.iload 6, 2) := by decide +kernel
theorem dX11_kinds_29 : decode cX11_kinds 29 = .ok (.ifCond .eq 10, 3) := by decide +kernel
theorem dX11_kinds_32 : decode cX11_kinds 32 = .ok (.aload_n 0, 1) := by decide +kernel
theorem dX11_kinds_33 : decode cX11_kinds 33 = .ok (.iload 6, 2) := by decide +kernel
theorem dX11_kinds_35 : decode cX11_kinds 35 = .ok (.invokevirtual 72, 3) := by decide +kernel
theorem dX11_kinds_38 : decode cX11_kinds 38 = .ok (.ireturn, 1) := by decide +kernel
theorem dX11_kinds_39 : decode cX11_kinds 39 = .ok (.iconst 0, 1) := by decide +kernel
theorem dX11_kinds_40 : decode cX11_kinds 40 = .ok (.istore 7, 2) := by decide +kernel
theorem dX11_kinds_42 : decode cX11_kinds 42 = .ok (.iconst 0, 1) := by decide +kernel
theorem dX11_kinds_43 : decode cX11_kinds 43 = .ok (.istore 8, 2) := by decide +kernel
theorem dX11_kinds_45 : decode cX11_kinds 45 = .ok (.iload 8, 2) := by decide +kernel
theorem dX11_kinds_47 : decode cX11_kinds 47 = .ok (.bipush 6, 2) := by decide +kernel
theorem dX11_kinds_49 : decode cX11_kinds 49 = .ok (.if_icmp .ge 47, 3) := by decide +kernel
theorem dX11_kinds_52 : decode cX11_kinds 52 = .ok (.aload_n 0, 1) := by decide +kernel
theorem dX11_kinds_53 : decode cX11_kinds 53 = .ok (.aload_n 0, 1) := by decide +kernel
theorem dX11_kinds_54 : decode cX11_kinds 54 = .ok (.getfield 48, 3) := by decide +kernel
theorem dX11_kinds_57 : decode cX11_kinds 57 = .ok (.getfield 102, 3) := by decide +kernel
theorem dX11_kinds_60 : decode cX11_kinds 60 = .ok (.iload_n 1, 1) := by decide +kernel
theorem dX11_kinds_61 : decode cX11_kinds 61 = .ok (.aaload, 1) := by decide +kernel
theorem dX11_kinds_62 : decode cX11_kinds 62 = .ok (.aload_n 0, 1) := by decide +kernel
theorem dX11_kinds_63 : decode cX11_kinds 63 = .ok (.getfield 25, 3) := by decide +kernel
theorem dX11_kinds_66 : decode cX11_kinds 66 = .ok (.iload 8, 2) := by decide +kernel
theorem dX11_kinds_68 : decode cX11_kinds 68 = .ok (.aaload, 1) := by decide +kernel
theorem dX11_kinds_69 : decode cX11_kinds 69 = .ok (.iload_n 2, 1) := by decide +kernel
theorem dX11_kinds_70 : decode cX11_kinds 70 = .ok (.iload_n 3, 1) := by decide +kernel
theorem dX11_kinds_71 : decode cX11_kinds 71 = .ok (.iload 4, 2) := by decide +kernel
theorem dX11_kinds_73 : decode cX11_kinds 73 = .ok (.iload 5, 2) := by decide +kernel
theorem dX11_kinds_75 : decode cX11_kinds 75 = .ok (.invokevirtual 220, 3) := by decide +kernel
theorem dX11_kinds_78 : decode cX11_kinds 78 = .ok (.ifCond .eq 12, 3) := by decide +kernel
theorem dX11_kinds_81 : decode cX11_kinds 81 = .ok (.iload 7, 2) := by decide +kernel
theorem dX11_kinds_83 : decode cX11_kinds 83 = .ok (.iconst 1, 1) := by decide +kernel
theorem dX11_kinds_84 : decode cX11_kinds 84 = .ok (.iload 8, 2) := by decide +kernel
theorem dX11_kinds_86 : decode cX11_kinds 86 = .ok (.ishl, 1) := by decide +kernel
theorem dX11_kinds_87 : decode cX11_kinds 87 = .ok (.ior, 1) := by decide +kernel
theorem dX11_kinds_88 : decode cX11_kinds 88 = .ok (.istore 7, 2) := by decide +kernel
theorem dX11_kinds_90 : decode cX11_kinds 90 = .ok (.iinc 8 1, 3) := by decide +kernel
theorem dX11_kinds_93 : decode cX11_kinds 93 = .ok (.goto (-48), 3) := by decide +kernel
theorem dX11_kinds_96 : decode cX11_kinds 96 = .ok (.iload 7, 2) := by decide +kernel
theorem dX11_kinds_98 : decode cX11_kinds 98 = .ok (.ireturn, 1) := by decide +kernel
theorem dX11_row_0 : decode cX11_row 0 = .ok (.iload_n 1, 1) := by decide +kernel
theorem dX11_row_1 : decode cX11_row 1 = .ok (.sipush (-999), 3) := by decide +kernel
theorem dX11_row_4 : decode cX11_row 4 = .ok (.if_icmp .ge 10, 3) := by decide +kernel
theorem dX11_row_7 : decode cX11_row 7 = .ok (.aload_n 0, 1) := by decide +kernel
theorem dX11_row_8 : decode cX11_row 8 = .ok (.bipush (-4), 2) := by decide +kernel
theorem dX11_row_10 : decode cX11_row 10 = .ok (.invokevirtual 72, 3) := by decide +kernel
theorem dX11_row_13 : decode cX11_row 13 = .ok (.ireturn, 1) := by decide +kernel
theorem dX11_row_14 : decode cX11_row 14 = .ok (.iload_n 1, 1) := by decide +kernel
theorem dX11_row_15 : decode cX11_row 15 = .ok (.sipush 999, 3) := by decide +kernel
theorem dX11_row_18 : decode cX11_row 18 = .ok (.if_icmp .gt 12, 3) := by decide +kernel
theorem dX11_row_21 : decode cX11_row 21 = .ok (.aload_n 0, 1) := by decide +kernel
theorem dX11_row_22 : decode cX11_row 22 = .ok (.getfield 224, 3) := by decide +kernel
theorem dX11_row_25 : decode cX11_row 25 = .ok (.bipush 12, 2) := by decide +kernel
theorem dX11_row_27 : decode cX11_row 27 = .ok (.if_icmp .lt 10, 3) := by decide +kernel
theorem dX11_row_30 : decode cX11_row 30 = .ok (.aload_n 0, 1) := by decide +kernel
theorem dX11_row_31 : decode cX11_row 31 = .ok (.bipush (-6), 2) := by decide +kernel
theorem dX11_row_33 : decode cX11_row 33 = .ok (.invokevirtual 72, 3) := by decide +kernel
theorem dX11_row_36 : decode cX11_row 36 = .ok (.ireturn, 1) := by decide +kernel
theorem dX11_row_37 : decode cX11_row 37 = .ok (.aload_n 0, 1) := by decide +kernel
theorem dX11_row_38 : decode cX11_row 38 = .ok (.getfield 65, 3) := by decide +kernel
theorem dX11_row_41 : decode cX11_row 41 = .ok (.aload_n 0, 1) := by decide +kernel
theorem dX11_row_42 : decode cX11_row 42 = .ok (.getfield 224, 3) := by decide +kernel
theorem dX11_row_45 : decode cX11_row 45 = .ok (.iload_n 1, 1) := by decide +kernel
theorem dX11_row_46 : decode cX11_row 46 = .ok (.iastore, 1) := by decide +kernel
theorem dX11_row_47 : decode cX11_row 47 = .ok (.aload_n 0, 1) := by decide +kernel
theorem dX11_row_48 : decode cX11_row 48 = .ok (.dup, 1) := by decide +kernel
theorem dX11_row_49 : decode cX11_row 49 = .ok (.getfield 224, 3) := by decide +kernel
theorem dX11_row_52 : decode cX11_row 52 = .ok (.iconst 1, 1) := by decide +kernel
theorem dX11_row_53 : decode cX11_row 53 = .ok (.iadd, 1) := by decide +kernel
theorem dX11_row_54 : decode cX11_row 54 = .ok (.putfield 224, 3) := by decide +kernel
theorem dX11_row_57 : decode cX11_row 57 = .ok (.aload_n 0, 1) := by decide +kernel
theorem dX11_row_58 : decode cX11_row 58 = .ok (.getfield 224, 3) := by decide +kernel
theorem dX11_row_61 : decode cX11_row 61 = .ok (.ireturn, 1) := by decide +kernel
theorem dX11_judge_0 : decode cX11_judge 0 = .ok (.aload_n 0, 1) := by decide +kernel
theorem dX11_judge_1 : decode cX11_judge 1 = .ok (.iload_n 1, 1) := by decide +kernel
theorem dX11_judge_2 : decode cX11_judge 2 = .ok (.invokevirtual 92, 3) := by decide +kernel
theorem dX11_judge_5 : decode cX11_judge 5 = .ok (.istore_n 2, 1) := by decide +kernel
theorem dX11_judge_6 : decode cX11_judge 6 = .ok (.iload_n 2, 1) := by decide +kernel
theorem dX11_judge_7 : decode cX11_judge 7 = .ok (.ifCond .eq 9, 3) := by decide +kernel
theorem dX11_judge_10 : decode cX11_judge 10 = .ok (.aload_n 0, 1) := by decide +kernel
theorem dX11_judge_11 : decode cX11_judge 11 = .ok (.iload_n 2, 1) := by decide +kernel
theorem dX11_judge_12 : decode cX11_judge 12 = .ok (.invokevirtual 72, 3) := by decide +kernel
theorem dX11_judge_15 : decode cX11_judge 15 = .ok (.ireturn, 1) := by decide +kernel
theorem dX11_judge_16 : decode cX11_judge 16 = .ok (.aload_n 0, 1) := by decide +kernel
theorem dX11_judge_17 : decode cX11_judge 17 = .ok (.iload_n 1, 1) := by decide +kernel
theorem dX11_judge_18 : decode cX11_judge 18 = .ok (.invokevirtual 227, 3) := by decide +kernel
theorem dX11_judge_21 : decode cX11_judge 21 = .ok (.istore_n 3, 1) := by decide +kernel
theorem dX11_judge_22 : decode cX11_judge 22 = .ok (.aload_n 0, 1) := by decide +kernel
theorem dX11_judge_23 : decode cX11_judge 23 = .ok (.iconst 0, 1) := by decide +kernel
theorem dX11_judge_24 : decode cX11_judge 24 = .ok (.putfield 224, 3) := by decide +kernel
theorem dX11_judge_27 : decode cX11_judge 27 = .ok (.iload_n 3, 1) := by decide +kernel
theorem dX11_judge_28 : decode cX11_judge 28 = .ok (.ireturn, 1) := by decide +kernel
theorem dX11_lots_0 : decode cX11_lots 0 = .ok (.iload_n 1, 1) := by decide +kernel
theorem dX11_lots_1 : decode cX11_lots 1 = .ok (.iconst 1, 1) := by decide +kernel
theorem dX11_lots_2 : decode cX11_lots 2 = .ok (.bipush 40, 2) := by decide +kernel
theorem dX11_lots_4 : decode cX11_lots 4 = .ok (.invokestatic 148, 3) := by decide +kernel
theorem dX11_lots_7 : decode cX11_lots 7 = .ok (.iload_n 3, 1) := by decide +kernel
theorem dX11_lots_8 : decode cX11_lots 8 = .ok (.iconst 1, 1) := by decide +kernel
theorem dX11_lots_9 : decode cX11_lots 9 = .ok (.invokestatic 95, 3) := by decide +kernel
theorem dX11_lots_12 : decode cX11_lots 12 = .ok (.invokestatic 99, 3) := by decide +kernel
theorem dX11_lots_15 : decode cX11_lots 15 = .ok (.istore 4, 2) := by decide +kernel
theorem dX11_lots_17 : decode cX11_lots 17 = .ok (.iload 4, 2) := by decide +kernel
theorem dX11_lots_19 : decode cX11_lots 19 = .ok (.ifCond .eq 10, 3) := by decide +kernel
theorem dX11_lots_22 : decode cX11_lots 22 = .ok (.aload_n 0, 1) := by decide +kernel
theorem dX11_lots_23 : decode cX11_lots 23 = .ok (.iload 4, 2) := by decide +kernel
theorem dX11_lots_25 : decode cX11_lots 25 = .ok (.invokevirtual 72, 3) := by decide +kernel
theorem dX11_lots_28 : decode cX11_lots 28 = .ok (.ireturn, 1) := by decide +kernel
theorem dX11_lots_29 : decode cX11_lots 29 = .ok (.aload_n 0, 1) := by decide +kernel
theorem dX11_lots_30 : decode cX11_lots 30 = .ok (.getfield 52, 3) := by decide +kernel
theorem dX11_lots_33 : decode cX11_lots 33 = .ok (.aload_n 0, 1) := by decide +kernel
theorem dX11_lots_34 : decode cX11_lots 34 = .ok (.getfield 48, 3) := by decide +kernel
theorem dX11_lots_37 : decode cX11_lots 37 = .ok (.invokevirtual 84, 3) := by decide +kernel
theorem dX11_lots_40 : decode cX11_lots 40 = .ok (.aload_n 0, 1) := by decide +kernel
theorem dX11_lots_41 : decode cX11_lots 41 = .ok (.getfield 41, 3) := by decide +kernel
theorem dX11_lots_44 : decode cX11_lots 44 = .ok (.iload_n 2, 1) := by decide +kernel
theorem dX11_lots_45 : decode cX11_lots 45 = .ok (.putfield 230, 3) := by decide +kernel
theorem dX11_lots_48 : decode cX11_lots 48 = .ok (.aload_n 0, 1) := by decide +kernel
theorem dX11_lots_49 : decode cX11_lots 49 = .ok (.getfield 34, 3) := by decide +kernel
theorem dX11_lots_52 : decode cX11_lots 52 = .ok (.invokevirtual 233, 3) := by decide +kernel
theorem dX11_lots_55 : decode cX11_lots 55 = .ok (.iconst 0, 1) := by decide +kernel
theorem dX11_lots_56 : decode cX11_lots 56 = .ok (.istore 5, 2) := by decide +kernel
theorem dX11_lots_58 : decode cX11_lots 58 = .ok (.iconst 0, 1) := by decide +kernel
theorem dX11_lots_59 : decode cX11_lots 59 = .ok (.istore 6, 2) := by decide +kernel
theorem dX11_lots_61 : decode cX11_lots 61 = .ok (.iload 6, 2) := by decide +kernel
theorem dX11_lots_63 : decode cX11_lots 63 = .ok (.iload_n 1, 1) := by decide +kernel
theorem dX11_lots_64 : decode cX11_lots 64 = .ok (.if_icmp .ge 47, 3) := by decide +kernel
theorem dX11_lots_67 : decode cX11_lots 67 = .ok (.aload_n 0, 1) := by decide +kernel
theorem dX11_lots_68 : decode cX11_lots 68 = .ok (.getfield 34, 3) := by decide +kernel
theorem dX11_lots_71 : decode cX11_lots 71 = .ok (.aload_n 0, 1) := by decide +kernel
theorem dX11_lots_72 : decode cX11_lots 72 = .ok (.getfield 41, 3) := by decide +kernel
theorem dX11_lots_75 : decode cX11_lots 75 = .ok (.aload_n 0, 1) := by decide +kernel
theorem dX11_lots_76 : decode cX11_lots 76 = .ok (.getfield 52, 3) := by decide +kernel
theorem dX11_lots_79 : decode cX11_lots 79 = .ok (.getfield 158, 3) := by decide +kernel
theorem dX11_lots_82 : decode cX11_lots 82 = .ok (.invokevirtual 236, 3) := by decide +kernel
theorem dX11_lots_85 : decode cX11_lots 85 = .ok (.iload 5, 2) := by decide +kernel
theorem dX11_lots_87 : decode cX11_lots 87 = .ok (.aload_n 0, 1) := by decide +kernel
theorem dX11_lots_88 : decode cX11_lots 88 = .ok (.getfield 52, 3) := by decide +kernel
theorem dX11_lots_91 : decode cX11_lots 91 = .ok (.aload_n 0, 1) := by decide +kernel
theorem dX11_lots_92 : decode cX11_lots 92 = .ok (.getfield 34, 3) := by decide +kernel
theorem dX11_lots_95 : decode cX11_lots 95 = .ok (.aload_n 0, 1) := by decide +kernel
theorem dX11_lots_96 : decode cX11_lots 96 = .ok (.getfield 25, 3) := by decide +kernel
theorem dX11_lots_99 : decode cX11_lots 99 = .ok (.invokevirtual 240, 3) := by decide +kernel
theorem dX11_lots_102 : decode cX11_lots 102 = .ok (.iadd, 1) := by decide +kernel
theorem dX11_lots_103 : decode cX11_lots 103 = .ok (.istore 5, 2) := by decide +kernel
theorem dX11_lots_105 : decode cX11_lots 105 = .ok (.iinc 6 1, 3) := by decide +kernel
theorem dX11_lots_108 : decode cX11_lots 108 = .ok (.goto (-47), 3) := by decide +kernel
theorem dX11_lots_111 : decode cX11_lots 111 = .ok (.iload_n 3, 1) := by decide +kernel
theorem dX11_lots_112 : decode cX11_lots 112 = .ok (.ifCond .ne 8, 3) := by decide +kernel
theorem dX11_lots_115 : decode cX11_lots 115 = .ok (.iload 5, 2) := by decide +kernel
theorem dX11_lots_117 : decode cX11_lots 117 = .ok (.goto 17, 3) := by decide +kernel
theorem dX11_lots_120 : decode cX11_lots 120 = .ok (.aload_n 0, 1) := by decide +kernel
theorem dX11_lots_121 : decode cX11_lots 121 = .ok (.getfield 52, 3) := by decide +kernel
theorem dX11_lots_124 : decode cX11_lots 124 = .ok (.aload_n 0, 1) := by decide +kernel
theorem dX11_lots_125 : decode cX11_lots 125 = .ok (.getfield 52, 3) := by decide +kernel
theorem dX11_lots_128 : decode cX11_lots 128 = .ok (.getfield 155, 3) := by decide +kernel
theorem dX11_lots_131 : decode cX11_lots 131 = .ok (.invokevirtual 244, 3) := by decide +kernel
theorem dX11_lots_134 : decode cX11_lots 134 = .ok (.ireturn, 1) := by decide +kernel
theorem dX11_image_0 : decode cX11_image 0 = .ok (.aload_n 0, 1) := by decide +kernel
theorem dX11_image_1 : decode cX11_image 1 = .ok (.getfield 55, 3) := by decide +kernel
theorem dX11_image_4 : decode cX11_image 4 = .ok (.aload_n 0, 1) := by decide +kernel
theorem dX11_image_5 : decode cX11_image 5 = .ok (.getfield 48, 3) := by decide +kernel
theorem dX11_image_8 : decode cX11_image 8 = .ok (.invokevirtual 84, 3) := by decide +kernel
theorem dX11_image_11 : decode cX11_image 11 = .ok (.aload_n 0, 1) := by decide +kernel
theorem dX11_image_12 : decode cX11_image 12 = .ok (.iconst 1, 1) := by decide +kernel
theorem dX11_image_13 : decode cX11_image 13 = .ok (.putfield 247, 3) := by decide +kernel
theorem dX11_image_16 : decode cX11_image 16 = .ok (.aload_n 0, 1) := by decide +kernel
theorem dX11_image_17 : decode cX11_image 17 = .ok (.getfield 48, 3) := by decide +kernel
theorem dX11_image_20 : decode cX11_image 20 = .ok (.getfield 158, 3) := by decide +kernel
theorem dX11_image_23 : decode cX11_image 23 = .ok (.ireturn, 1) := by decide +kernel
theorem dX11_restore_0 : decode cX11_restore 0 = .ok (.aload_n 0, 1) := by decide +kernel
theorem dX11_restore_1 : decode cX11_restore 1 = .ok (.getfield 247, 3) := by decide +kernel
theorem dX11_restore_4 : decode cX11_restore 4 = .ok (.ifCond .ne 10, 3) := by decide +kernel
theorem dX11_restore_7 : decode cX11_restore 7 = .ok (.aload_n 0, 1) := by decide +kernel
theorem dX11_restore_8 : decode cX11_restore 8 = .ok (.bipush (-3), 2) := by decide +kernel
theorem dX11_restore_10 : decode cX11_restore 10 = .ok (.invokevirtual 72, 3) := by decide +kernel
theorem dX11_restore_13 : decode cX11_restore 13 = .ok (.ireturn, 1) := by decide +kernel
theorem dX11_restore_14 : decode cX11_restore 14 = .ok (.aload_n 0, 1) := by decide +kernel
theorem dX11_restore_15 : decode cX11_restore 15 = .ok (.getfield 48, 3) := by decide +kernel
theorem dX11_restore_18 : decode cX11_restore 18 = .ok (.aload_n 0, 1) := by decide +kernel
theorem dX11_restore_19 : decode cX11_restore 19 = .ok (.getfield 55, 3) := by decide +kernel
theorem dX11_restore_22 : decode cX11_restore 22 = .ok (.invokevirtual 84, 3) := by decide +kernel
theorem dX11_restore_25 : decode cX11_restore 25 = .ok (.aload_n 0, 1) := by decide +kernel
theorem dX11_restore_26 : decode cX11_restore 26 = .ok (.getfield 48, 3) := by decide +kernel
theorem dX11_restore_29 : decode cX11_restore 29 = .ok (.getfield 158, 3) := by decide +kernel
theorem dX11_restore_32 : decode cX11_restore 32 = .ok (.ireturn, 1) := by decide +kernel
theorem dX11_count_0 : decode cX11_count 0 = .ok (.iload_n 1, 1) := by decide +kernel
theorem dX11_count_1 : decode cX11_count 1 = .ok (.bipush 11, 2) := by decide +kernel
theorem dX11_count_3 : decode cX11_count 3 = .ok (.if_icmp .lt 19, 3) := by decide +kernel
theorem dX11_count_6 : decode cX11_count 6 = .ok (.iload_n 1, 1) := by decide +kernel
theorem dX11_count_7 : decode cX11_count 7 = .ok (.bipush 16, 2) := by decide +kernel
theorem dX11_count_9 : decode cX11_count 9 = .ok (.if_icmp .gt 13, 3) := by decide +kernel
theorem dX11_count_12 : decode cX11_count 12 = .ok (.aload_n 0, 1) := by decide +kernel
theorem dX11_count_13 : decode cX11_count 13 = .ok (.getfield 69, 3) := by decide +kernel
theorem dX11_count_16 : decode cX11_count 16 = .ok (.iload_n 1, 1) := by decide +kernel
theorem dX11_count_17 : decode cX11_count 17 = .ok (.bipush 10, 2) := by decide +kernel
theorem dX11_count_19 : decode cX11_count 19 = .ok (.isub, 1) := by decide +kernel
theorem dX11_count_20 : decode cX11_count 20 = .ok (.iaload, 1) := by decide +kernel
theorem dX11_count_21 : decode cX11_count 21 = .ok (.ireturn, 1) := by decide +kernel
theorem dX11_count_22 : decode cX11_count 22 = .ok (.iload_n 1, 1) := by decide +kernel
theorem dX11_count_23 : decode cX11_count 23 = .ok (.tableswitch 137 0 9 #[53, 61, 69, 77, 85, 93, 101, 109, 124, 132], 53) := by decide +kernel
theorem dX11_count_76 : decode cX11_count 76 = .ok (.aload_n 0, 1) := by decide +kernel
theorem dX11_count_77 : decode cX11_count 77 = .ok (.getfield 48, 3) := by decide +kernel
theorem dX11_count_80 : decode cX11_count 80 = .ok (.getfield 192, 3) := by decide +kernel
theorem dX11_count_83 : decode cX11_count 83 = .ok (.ireturn, 1) := by decide +kernel
theorem dX11_count_84 : decode cX11_count 84 = .ok (.aload_n 0, 1) := by decide +kernel
theorem dX11_count_85 : decode cX11_count 85 = .ok (.getfield 48, 3) := by decide +kernel
theorem dX11_count_88 : decode cX11_count 88 = .ok (.getfield 158, 3) := by decide +kernel
theorem dX11_count_91 : decode cX11_count 91 = .ok (.ireturn, 1) := by decide +kernel
theorem dX11_count_92 : decode cX11_count 92 = .ok (.aload_n 0, 1) := by decide +kernel
theorem dX11_count_93 : decode cX11_count 93 = .ok (.getfield 48, 3) := by decide +kernel
theorem dX11_count_96 : decode cX11_count 96 = .ok (.getfield 152, 3) := by decide +kernel
theorem dX11_count_99 : decode cX11_count 99 = .ok (.ireturn, 1) := by decide +kernel
theorem dX11_count_100 : decode cX11_count 100 = .ok (.aload_n 0, 1) := by decide +kernel
theorem dX11_count_101 : decode cX11_count 101 = .ok (.getfield 48, 3) := by decide +kernel
theorem dX11_count_104 : decode cX11_count 104 = .ok (.getfield 155, 3) := by decide +kernel
theorem dX11_count_107 : decode cX11_count 107 = .ok (.ireturn, 1) := by decide +kernel
theorem dX11_count_108 : decode cX11_count 108 = .ok (.aload_n 0, 1) := by decide +kernel
theorem dX11_count_109 : decode cX11_count 109 = .ok (.getfield 48, 3) := by decide +kernel
theorem dX11_count_112 : decode cX11_count 112 = .ok (.invokevirtual 251, 3) := by decide +kernel
theorem dX11_count_115 : decode cX11_count 115 = .ok (.ireturn, 1) := by decide +kernel
theorem dX11_count_116 : decode cX11_count 116 = .ok (.aload_n 0, 1) := by decide +kernel
theorem dX11_count_117 : decode cX11_count 117 = .ok (.getfield 48, 3) := by decide +kernel
theorem dX11_count_120 : decode cX11_count 120 = .ok (.invokevirtual 254, 3) := by decide +kernel
theorem dX11_count_123 : decode cX11_count 123 = .ok (.ireturn, 1) := by decide +kernel
theorem dX11_count_124 : decode cX11_count 124 = .ok (.aload_n 0, 1) := by decide +kernel
theorem dX11_count_125 : decode cX11_count 125 = .ok (.getfield 48, 3) := by decide +kernel
theorem dX11_count_128 : decode cX11_count 128 = .ok (.getfield 169, 3) := by decide +kernel
theorem dX11_count_131 : decode cX11_count 131 = .ok (.ireturn, 1) := by decide +kernel
theorem dX11_count_132 : decode cX11_count 132 = .ok (.aload_n 0, 1) := by decide +kernel
theorem dX11_count_133 : decode cX11_count 133 = .ok (.getfield 48, 3) := by decide +kernel
theorem dX11_count_136 : decode cX11_count 136 = .ok (.aload_n 0, 1) := by decide +kernel
theorem dX11_count_137 : decode cX11_count 137 = .ok (.getfield 48, 3) := by decide +kernel
theorem dX11_count_140 : decode cX11_count 140 = .ok (.getfield 152, 3) := by decide +kernel
theorem dX11_count_143 : decode cX11_count 143 = .ok (.invokevirtual 244, 3) := by decide +kernel
theorem dX11_count_146 : decode cX11_count 146 = .ok (.ireturn, 1) := by decide +kernel
theorem dX11_count_147 : decode cX11_count 147 = .ok (.aload_n 0, 1) := by decide +kernel
theorem dX11_count_148 : decode cX11_count 148 = .ok (.getfield 61, 3) := by decide +kernel
theorem dX11_count_151 : decode cX11_count 151 = .ok (.getfield 76, 3) := by decide +kernel
theorem dX11_count_154 : decode cX11_count 154 = .ok (.ireturn, 1) := by decide +kernel
theorem dX11_count_155 : decode cX11_count 155 = .ok (.aload_n 0, 1) := by decide +kernel
theorem dX11_count_156 : decode cX11_count 156 = .ok (.getfield 224, 3) := by decide +kernel
theorem dX11_count_159 : decode cX11_count 159 = .ok (.ireturn, 1) := by decide +kernel
theorem dX11_count_160 : decode cX11_count 160 = .ok (.bipush (-9), 2) := by decide +kernel
theorem dX11_count_162 : decode cX11_count 162 = .ok (.ireturn, 1) := by decide +kernel
theorem dX11_refuse_0 : decode cX11_refuse 0 = .ok (.iload_n 1, 1) := by decide +kernel
theorem dX11_refuse_1 : decode cX11_refuse 1 = .ok (.ineg, 1) := by decide +kernel
theorem dX11_refuse_2 : decode cX11_refuse 2 = .ok (.istore_n 2, 1) := by decide +kernel
theorem dX11_refuse_3 : decode cX11_refuse 3 = .ok (.iload_n 2, 1) := by decide +kernel
theorem dX11_refuse_4 : decode cX11_refuse 4 = .ok (.ifCond .le 22, 3) := by decide +kernel
theorem dX11_refuse_7 : decode cX11_refuse 7 = .ok (.iload_n 2, 1) := by decide +kernel
theorem dX11_refuse_8 : decode cX11_refuse 8 = .ok (.aload_n 0, 1) := by decide +kernel
theorem dX11_refuse_9 : decode cX11_refuse 9 = .ok (.getfield 69, 3) := by decide +kernel
theorem dX11_refuse_12 : decode cX11_refuse 12 = .ok (.arraylength, 1) := by decide +kernel
theorem dX11_refuse_13 : decode cX11_refuse 13 = .ok (.if_icmp .ge 13, 3) := by decide +kernel
theorem dX11_refuse_16 : decode cX11_refuse 16 = .ok (.aload_n 0, 1) := by decide +kernel
theorem dX11_refuse_17 : decode cX11_refuse 17 = .ok (.getfield 69, 3) := by decide +kernel
theorem dX11_refuse_20 : decode cX11_refuse 20 = .ok (.iload_n 2, 1) := by decide +kernel
theorem dX11_refuse_21 : decode cX11_refuse 21 = .ok (.dup2, 1) := by decide +kernel
theorem dX11_refuse_22 : decode cX11_refuse 22 = .ok (.iaload, 1) := by decide +kernel
theorem dX11_refuse_23 : decode cX11_refuse 23 = .ok (.iconst 1, 1) := by decide +kernel
theorem dX11_refuse_24 : decode cX11_refuse 24 = .ok (.iadd, 1) := by decide +kernel
theorem dX11_refuse_25 : decode cX11_refuse 25 = .ok (.iastore, 1) := by decide +kernel
theorem dX11_refuse_26 : decode cX11_refuse 26 = .ok (.iload_n 1, 1) := by decide +kernel
theorem dX11_refuse_27 : decode cX11_refuse 27 = .ok (.ireturn, 1) := by decide +kernel
theorem dX11_first_0 : decode cX11_first 0 = .ok (.iload_n 0, 1) := by decide +kernel
theorem dX11_first_1 : decode cX11_first 1 = .ok (.ifCond .eq 7, 3) := by decide +kernel
theorem dX11_first_4 : decode cX11_first 4 = .ok (.iload_n 0, 1) := by decide +kernel
theorem dX11_first_5 : decode cX11_first 5 = .ok (.goto 4, 3) := by decide +kernel
theorem dX11_first_8 : decode cX11_first 8 = .ok (.iload_n 1, 1) := by decide +kernel
theorem dX11_first_9 : decode cX11_first 9 = .ok (.ireturn, 1) := by decide +kernel
theorem dX11_nobody_0 : decode cX11_nobody 0 = .ok (.aload_n 0, 1) := by decide +kernel
theorem dX11_nobody_1 : decode cX11_nobody 1 = .ok (.getfield 48, 3) := by decide +kernel
theorem dX11_nobody_4 : decode cX11_nobody 4 = .ok (.iload_n 1, 1) := by decide +kernel
theorem dX11_nobody_5 : decode cX11_nobody 5 = .ok (.invokevirtual 257, 3) := by decide +kernel
theorem dX11_nobody_8 : decode cX11_nobody 8 = .ok (.ifCond .eq 7, 3) := by decide +kernel
theorem dX11_nobody_11 : decode cX11_nobody 11 = .ok (.iconst 0, 1) := by decide +kernel
theorem dX11_nobody_12 : decode cX11_nobody 12 = .ok (.goto 4, 3) := by decide +kernel
theorem dX11_nobody_15 : decode cX11_nobody 15 = .ok (.iconst (-1), 1) := by decide +kernel
theorem dX11_nobody_16 : decode cX11_nobody 16 = .ok (.ireturn, 1) := by decide +kernel
theorem dX11_notTwo_0 : decode cX11_notTwo 0 = .ok (.aload_n 0, 1) := by decide +kernel
theorem dX11_notTwo_1 : decode cX11_notTwo 1 = .ok (.getfield 48, 3) := by decide +kernel
theorem dX11_notTwo_4 : decode cX11_notTwo 4 = .ok (.iload_n 1, 1) := by decide +kernel
theorem dX11_notTwo_5 : decode cX11_notTwo 5 = .ok (.invokevirtual 257, 3) := by decide +kernel
theorem dX11_notTwo_8 : decode cX11_notTwo 8 = .ok (.ifCond .eq 23, 3) := by decide +kernel
theorem dX11_notTwo_11 : decode cX11_notTwo 11 = .ok (.aload_n 0, 1) := by decide +kernel
theorem dX11_notTwo_12 : decode cX11_notTwo 12 = .ok (.getfield 48, 3) := by decide +kernel
theorem dX11_notTwo_15 : decode cX11_notTwo 15 = .ok (.iload_n 2, 1) := by decide +kernel
theorem dX11_notTwo_16 : decode cX11_notTwo 16 = .ok (.invokevirtual 257, 3) := by decide +kernel
theorem dX11_notTwo_19 : decode cX11_notTwo 19 = .ok (.ifCond .eq 12, 3) := by decide +kernel
theorem dX11_notTwo_22 : decode cX11_notTwo 22 = .ok (.iload_n 1, 1) := by decide +kernel
theorem dX11_notTwo_23 : decode cX11_notTwo 23 = .ok (.iload_n 2, 1) := by decide +kernel
theorem dX11_notTwo_24 : decode cX11_notTwo 24 = .ok (.if_icmp .eq 7, 3) := by decide +kernel
theorem dX11_notTwo_27 : decode cX11_notTwo 27 = .ok (.iconst 0, 1) := by decide +kernel
theorem dX11_notTwo_28 : decode cX11_notTwo 28 = .ok (.goto 4, 3) := by decide +kernel
theorem dX11_notTwo_31 : decode cX11_notTwo 31 = .ok (.iconst (-1), 1) := by decide +kernel
theorem dX11_notTwo_32 : decode cX11_notTwo 32 = .ok (.ireturn, 1) := by decide +kernel
theorem dX11_otherThan_0 : decode cX11_otherThan 0 = .ok (.iload_n 0, 1) := by decide +kernel
theorem dX11_otherThan_1 : decode cX11_otherThan 1 = .ok (.ifCond .lt 12, 3) := by decide +kernel
theorem dX11_otherThan_4 : decode cX11_otherThan 4 = .ok (.iload_n 0, 1) := by decide +kernel
theorem dX11_otherThan_5 : decode cX11_otherThan 5 = .ok (.iload_n 1, 1) := by decide +kernel
theorem dX11_otherThan_6 : decode cX11_otherThan 6 = .ok (.if_icmp .gt 7, 3) := by decide +kernel
theorem dX11_otherThan_9 : decode cX11_otherThan 9 = .ok (.iconst 0, 1) := by decide +kernel
theorem dX11_otherThan_10 : decode cX11_otherThan 10 = .ok (.goto 5, 3) := by decide +kernel
theorem dX11_otherThan_13 : decode cX11_otherThan 13 = .ok (.bipush (-2), 2) := by decide +kernel
theorem dX11_otherThan_15 : decode cX11_otherThan 15 = .ok (.ireturn, 1) := by decide +kernel
theorem dX11_range_0 : decode cX11_range 0 = .ok (.iload_n 0, 1) := by decide +kernel
theorem dX11_range_1 : decode cX11_range 1 = .ok (.iload_n 1, 1) := by decide +kernel
theorem dX11_range_2 : decode cX11_range 2 = .ok (.if_icmp .ge 8, 3) := by decide +kernel
theorem dX11_range_5 : decode cX11_range 5 = .ok (.bipush (-4), 2) := by decide +kernel
theorem dX11_range_7 : decode cX11_range 7 = .ok (.goto 14, 3) := by decide +kernel
theorem dX11_range_10 : decode cX11_range 10 = .ok (.iload_n 0, 1) := by decide +kernel
theorem dX11_range_11 : decode cX11_range 11 = .ok (.iload_n 2, 1) := by decide +kernel
theorem dX11_range_12 : decode cX11_range 12 = .ok (.if_icmp .le 8, 3) := by decide +kernel
theorem dX11_range_15 : decode cX11_range 15 = .ok (.bipush (-6), 2) := by decide +kernel
theorem dX11_range_17 : decode cX11_range 17 = .ok (.goto 4, 3) := by decide +kernel
theorem dX11_range_20 : decode cX11_range 20 = .ok (.iconst 0, 1) := by decide +kernel
theorem dX11_range_21 : decode cX11_range 21 = .ok (.ireturn, 1) := by decide +kernel
theorem dX11_rangeOfTwo_0 : decode cX11_rangeOfTwo 0 = .ok (.iload_n 0, 1) := by decide +kernel
theorem dX11_rangeOfTwo_1 : decode cX11_rangeOfTwo 1 = .ok (.iload_n 2, 1) := by decide +kernel
theorem dX11_rangeOfTwo_2 : decode cX11_rangeOfTwo 2 = .ok (.iload_n 3, 1) := by decide +kernel
theorem dX11_rangeOfTwo_3 : decode cX11_rangeOfTwo 3 = .ok (.invokestatic 148, 3) := by decide +kernel
theorem dX11_rangeOfTwo_6 : decode cX11_rangeOfTwo 6 = .ok (.iload_n 1, 1) := by decide +kernel
theorem dX11_rangeOfTwo_7 : decode cX11_rangeOfTwo 7 = .ok (.iload_n 2, 1) := by decide +kernel
theorem dX11_rangeOfTwo_8 : decode cX11_rangeOfTwo 8 = .ok (.iload_n 3, 1) := by decide +kernel
theorem dX11_rangeOfTwo_9 : decode cX11_rangeOfTwo 9 = .ok (.invokestatic 148, 3) := by decide +kernel
theorem dX11_rangeOfTwo_12 : decode cX11_rangeOfTwo 12 = .ok (.invokestatic 211, 3) := by decide +kernel
theorem dX11_rangeOfTwo_15 : decode cX11_rangeOfTwo 15 = .ok (.ireturn, 1) := by decide +kernel
theorem dX11_belowFirst_0 : decode cX11_belowFirst 0 = .ok (.iload_n 1, 1) := by decide +kernel
theorem dX11_belowFirst_1 : decode cX11_belowFirst 1 = .ok (.bipush (-4), 2) := by decide +kernel
theorem dX11_belowFirst_3 : decode cX11_belowFirst 3 = .ok (.if_icmp .ne 8, 3) := by decide +kernel
theorem dX11_belowFirst_6 : decode cX11_belowFirst 6 = .ok (.bipush (-4), 2) := by decide +kernel
theorem dX11_belowFirst_8 : decode cX11_belowFirst 8 = .ok (.goto 8, 3) := by decide +kernel
theorem dX11_belowFirst_11 : decode cX11_belowFirst 11 = .ok (.iload_n 0, 1) := by decide +kernel
theorem dX11_belowFirst_12 : decode cX11_belowFirst 12 = .ok (.iload_n 1, 1) := by decide +kernel
theorem dX11_belowFirst_13 : decode cX11_belowFirst 13 = .ok (.invokestatic 99, 3) := by decide +kernel
theorem dX11_belowFirst_16 : decode cX11_belowFirst 16 = .ok (.ireturn, 1) := by decide +kernel
theorem dX11_isOfWeek_0 : decode cX11_isOfWeek 0 = .ok (.iload_n 0, 1) := by decide +kernel
theorem dX11_isOfWeek_1 : decode cX11_isOfWeek 1 = .ok (.ifCond .lt 13, 3) := by decide +kernel
theorem dX11_isOfWeek_4 : decode cX11_isOfWeek 4 = .ok (.iload_n 0, 1) := by decide +kernel
theorem dX11_isOfWeek_5 : decode cX11_isOfWeek 5 = .ok (.bipush 7, 2) := by decide +kernel
theorem dX11_isOfWeek_7 : decode cX11_isOfWeek 7 = .ok (.if_icmp .ge 7, 3) := by decide +kernel
theorem dX11_isOfWeek_10 : decode cX11_isOfWeek 10 = .ok (.iconst 1, 1) := by decide +kernel
theorem dX11_isOfWeek_11 : decode cX11_isOfWeek 11 = .ok (.goto 4, 3) := by decide +kernel
theorem dX11_isOfWeek_14 : decode cX11_isOfWeek 14 = .ok (.iconst 0, 1) := by decide +kernel
theorem dX11_isOfWeek_15 : decode cX11_isOfWeek 15 = .ok (.ireturn, 1) := by decide +kernel
theorem dX11_toldWind_0 : decode cX11_toldWind 0 = .ok (.bipush 10, 2) := by decide +kernel
theorem dX11_toldWind_2 : decode cX11_toldWind 2 = .ok (.iconst 4, 1) := by decide +kernel
theorem dX11_toldWind_3 : decode cX11_toldWind 3 = .ok (.aload_n 0, 1) := by decide +kernel
theorem dX11_toldWind_4 : decode cX11_toldWind 4 = .ok (.getfield 48, 3) := by decide +kernel
theorem dX11_toldWind_7 : decode cX11_toldWind 7 = .ok (.getfield 142, 3) := by decide +kernel
theorem dX11_toldWind_10 : decode cX11_toldWind 10 = .ok (.iload_n 1, 1) := by decide +kernel
theorem dX11_toldWind_11 : decode cX11_toldWind 11 = .ok (.iaload, 1) := by decide +kernel
theorem dX11_toldWind_12 : decode cX11_toldWind 12 = .ok (.iadd, 1) := by decide +kernel
theorem dX11_toldWind_13 : decode cX11_toldWind 13 = .ok (.imul, 1) := by decide +kernel
theorem dX11_toldWind_14 : decode cX11_toldWind 14 = .ok (.iconst 4, 1) := by decide +kernel
theorem dX11_toldWind_15 : decode cX11_toldWind 15 = .ok (.iadd, 1) := by decide +kernel
theorem dX11_toldWind_16 : decode cX11_toldWind 16 = .ok (.aload_n 0, 1) := by decide +kernel
theorem dX11_toldWind_17 : decode cX11_toldWind 17 = .ok (.getfield 48, 3) := by decide +kernel
theorem dX11_toldWind_20 : decode cX11_toldWind 20 = .ok (.getfield 145, 3) := by decide +kernel
theorem dX11_toldWind_23 : decode cX11_toldWind 23 = .ok (.iload_n 1, 1) := by decide +kernel
theorem dX11_toldWind_24 : decode cX11_toldWind 24 = .ok (.iaload, 1) := by decide +kernel
theorem dX11_toldWind_25 : decode cX11_toldWind 25 = .ok (.iadd, 1) := by decide +kernel
theorem dX11_toldWind_26 : decode cX11_toldWind 26 = .ok (.ireturn, 1) := by decide +kernel
theorem dX11_driftToday_0 : decode cX11_driftToday 0 = .ok (.aload_n 0, 1) := by decide +kernel
theorem dX11_driftToday_1 : decode cX11_driftToday 1 = .ok (.getfield 48, 3) := by decide +kernel
theorem dX11_driftToday_4 : decode cX11_driftToday 4 = .ok (.aload_n 0, 1) := by decide +kernel
theorem dX11_driftToday_5 : decode cX11_driftToday 5 = .ok (.getfield 48, 3) := by decide +kernel
theorem dX11_driftToday_8 : decode cX11_driftToday 8 = .ok (.getfield 158, 3) := by decide +kernel
theorem dX11_driftToday_11 : decode cX11_driftToday 11 = .ok (.aload_n 0, 1) := by decide +kernel
theorem dX11_driftToday_12 : decode cX11_driftToday 12 = .ok (.getfield 34, 3) := by decide +kernel
theorem dX11_driftToday_15 : decode cX11_driftToday 15 = .ok (.invokevirtual 260, 3) := by decide +kernel
theorem dX11_driftToday_18 : decode cX11_driftToday 18 = .ok (.aload_n 0, 1) := by decide +kernel
theorem dX11_driftToday_19 : decode cX11_driftToday 19 = .ok (.getfield 25, 3) := by decide +kernel
theorem dX11_driftToday_22 : decode cX11_driftToday 22 = .ok (.aload_n 1, 1) := by decide +kernel
theorem dX11_driftToday_23 : decode cX11_driftToday 23 = .ok (.getfield 106, 3) := by decide +kernel
theorem dX11_driftToday_26 : decode cX11_driftToday 26 = .ok (.aaload, 1) := by decide +kernel
theorem dX11_driftToday_27 : decode cX11_driftToday 27 = .ok (.astore_n 3, 1) := by decide +kernel
theorem dX11_driftToday_28 : decode cX11_driftToday 28 = .ok (.iload_n 2, 1) := by decide +kernel
theorem dX11_driftToday_29 : decode cX11_driftToday 29 = .ok (.ifCond .eq 18, 3) := by decide +kernel
theorem dX11_driftToday_32 : decode cX11_driftToday 32 = .ok (.aload_n 3, 1) := by decide +kernel
theorem dX11_driftToday_33 : decode cX11_driftToday 33 = .ok (.aload_n 0, 1) := by decide +kernel
theorem dX11_driftToday_34 : decode cX11_driftToday 34 = .ok (.getfield 34, 3) := by decide +kernel
theorem dX11_driftToday_37 : decode cX11_driftToday 37 = .ok (.aload_n 1, 1) := by decide +kernel
theorem dX11_driftToday_38 : decode cX11_driftToday 38 = .ok (.getfield 111, 3) := by decide +kernel
theorem dX11_driftToday_41 : decode cX11_driftToday 41 = .ok (.invokevirtual 264, 3) := by decide +kernel
theorem dX11_driftToday_44 : decode cX11_driftToday 44 = .ok (.goto 15, 3) := by decide +kernel
theorem dX11_driftToday_47 : decode cX11_driftToday 47 = .ok (.aload_n 3, 1) := by decide +kernel
theorem dX11_driftToday_48 : decode cX11_driftToday 48 = .ok (.aload_n 0, 1) := by decide +kernel
theorem dX11_driftToday_49 : decode cX11_driftToday 49 = .ok (.getfield 34, 3) := by decide +kernel
theorem dX11_driftToday_52 : decode cX11_driftToday 52 = .ok (.aload_n 1, 1) := by decide +kernel
theorem dX11_driftToday_53 : decode cX11_driftToday 53 = .ok (.getfield 111, 3) := by decide +kernel
theorem dX11_driftToday_56 : decode cX11_driftToday 56 = .ok (.invokevirtual 268, 3) := by decide +kernel
theorem dX11_driftToday_59 : decode cX11_driftToday 59 = .ok (.ireturn, 1) := by decide +kernel
theorem dX11_dayOf_0 : decode cX11_dayOf 0 = .ok (.aload_n 1, 1) := by decide +kernel
theorem dX11_dayOf_1 : decode cX11_dayOf 1 = .ok (.aload_n 1, 1) := by decide +kernel
theorem dX11_dayOf_2 : decode cX11_dayOf 2 = .ok (.getfield 158, 3) := by decide +kernel
theorem dX11_dayOf_5 : decode cX11_dayOf 5 = .ok (.aload_n 0, 1) := by decide +kernel
theorem dX11_dayOf_6 : decode cX11_dayOf 6 = .ok (.getfield 34, 3) := by decide +kernel
theorem dX11_dayOf_9 : decode cX11_dayOf 9 = .ok (.invokevirtual 260, 3) := by decide +kernel
theorem dX11_dayOf_12 : decode cX11_dayOf 12 = .ok (.aload_n 1, 1) := by decide +kernel
theorem dX11_dayOf_13 : decode cX11_dayOf 13 = .ok (.aload_n 0, 1) := by decide +kernel
theorem dX11_dayOf_14 : decode cX11_dayOf 14 = .ok (.getfield 34, 3) := by decide +kernel
theorem dX11_dayOf_17 : decode cX11_dayOf 17 = .ok (.aload_n 0, 1) := by decide +kernel
theorem dX11_dayOf_18 : decode cX11_dayOf 18 = .ok (.getfield 25, 3) := by decide +kernel
theorem dX11_dayOf_21 : decode cX11_dayOf 21 = .ok (.invokevirtual 240, 3) := by decide +kernel
theorem dX11_dayOf_24 : decode cX11_dayOf 24 = .ok (.ireturn, 1) := by decide +kernel
theorem dX11_daysUntil_0 : decode cX11_daysUntil 0 = .ok (.iload_n 1, 1) := by decide +kernel
theorem dX11_daysUntil_1 : decode cX11_daysUntil 1 = .ok (.istore 4, 2) := by decide +kernel
theorem dX11_daysUntil_3 : decode cX11_daysUntil 3 = .ok (.iconst 0, 1) := by decide +kernel
theorem dX11_daysUntil_4 : decode cX11_daysUntil 4 = .ok (.istore 5, 2) := by decide +kernel
theorem dX11_daysUntil_6 : decode cX11_daysUntil 6 = .ok (.iload 5, 2) := by decide +kernel
theorem dX11_daysUntil_8 : decode cX11_daysUntil 8 = .ok (.iload_n 3, 1) := by decide +kernel
theorem dX11_daysUntil_9 : decode cX11_daysUntil 9 = .ok (.if_icmp .gt 40, 3) := by decide +kernel
theorem dX11_daysUntil_12 : decode cX11_daysUntil 12 = .ok (.iload 4, 2) := by decide +kernel
theorem dX11_daysUntil_14 : decode cX11_daysUntil 14 = .ok (.iload_n 2, 1) := by decide +kernel
theorem dX11_daysUntil_15 : decode cX11_daysUntil 15 = .ok (.iand, 1) := by decide +kernel
theorem dX11_daysUntil_16 : decode cX11_daysUntil 16 = .ok (.iload_n 2, 1) := by decide +kernel
theorem dX11_daysUntil_17 : decode cX11_daysUntil 17 = .ok (.if_icmp .ne 6, 3) := by decide +kernel
theorem dX11_daysUntil_20 : decode cX11_daysUntil 20 = .ok (.iload 5, 2) := by decide +kernel
theorem dX11_daysUntil_22 : decode cX11_daysUntil 22 = .ok (.ireturn, 1) := by decide +kernel
theorem dX11_daysUntil_23 : decode cX11_daysUntil 23 = .ok (.aload_n 0, 1) := by decide +kernel
theorem dX11_daysUntil_24 : decode cX11_daysUntil 24 = .ok (.getfield 52, 3) := by decide +kernel
theorem dX11_daysUntil_27 : decode cX11_daysUntil 27 = .ok (.iload 4, 2) := by decide +kernel
theorem dX11_daysUntil_29 : decode cX11_daysUntil 29 = .ok (.invokevirtual 189, 3) := by decide +kernel
theorem dX11_daysUntil_32 : decode cX11_daysUntil 32 = .ok (.istore 4, 2) := by decide +kernel
theorem dX11_daysUntil_34 : decode cX11_daysUntil 34 = .ok (.aload_n 0, 1) := by decide +kernel
theorem dX11_daysUntil_35 : decode cX11_daysUntil 35 = .ok (.aload_n 0, 1) := by decide +kernel
theorem dX11_daysUntil_36 : decode cX11_daysUntil 36 = .ok (.getfield 52, 3) := by decide +kernel
theorem dX11_daysUntil_39 : decode cX11_daysUntil 39 = .ok (.invokevirtual 166, 3) := by decide +kernel
theorem dX11_daysUntil_42 : decode cX11_daysUntil 42 = .ok (.pop, 1) := by decide +kernel
theorem dX11_daysUntil_43 : decode cX11_daysUntil 43 = .ok (.iinc 5 1, 3) := by decide +kernel
theorem dX11_daysUntil_46 : decode cX11_daysUntil 46 = .ok (.goto (-40), 3) := by decide +kernel
theorem dX11_daysUntil_49 : decode cX11_daysUntil 49 = .ok (.bipush (-9), 2) := by decide +kernel
theorem dX11_daysUntil_51 : decode cX11_daysUntil 51 = .ok (.ireturn, 1) := by decide +kernel
theorem dX11_deal_0 : decode cX11_deal 0 = .ok (.aload_n 0, 1) := by decide +kernel
theorem dX11_deal_1 : decode cX11_deal 1 = .ok (.getfield 117, 3) := by decide +kernel
theorem dX11_deal_4 : decode cX11_deal 4 = .ok (.aload_n 1, 1) := by decide +kernel
theorem dX11_deal_5 : decode cX11_deal 5 = .ok (.getfield 117, 3) := by decide +kernel
theorem dX11_deal_8 : decode cX11_deal 8 = .ok (.iadd, 1) := by decide +kernel
theorem dX11_deal_9 : decode cX11_deal 9 = .ok (.istore_n 2, 1) := by decide +kernel
theorem dX11_deal_10 : decode cX11_deal 10 = .ok (.aload_n 0, 1) := by decide +kernel
theorem dX11_deal_11 : decode cX11_deal 11 = .ok (.getfield 114, 3) := by decide +kernel
theorem dX11_deal_14 : decode cX11_deal 14 = .ok (.aload_n 1, 1) := by decide +kernel
theorem dX11_deal_15 : decode cX11_deal 15 = .ok (.getfield 114, 3) := by decide +kernel
theorem dX11_deal_18 : decode cX11_deal 18 = .ok (.iadd, 1) := by decide +kernel
theorem dX11_deal_19 : decode cX11_deal 19 = .ok (.istore_n 3, 1) := by decide +kernel
theorem dX11_deal_20 : decode cX11_deal 20 = .ok (.iload_n 3, 1) := by decide +kernel
theorem dX11_deal_21 : decode cX11_deal 21 = .ok (.ifCond .le 14, 3) := by decide +kernel
theorem dX11_deal_24 : decode cX11_deal 24 = .ok (.iload_n 2, 1) := by decide +kernel
theorem dX11_deal_25 : decode cX11_deal 25 = .ok (.aload_n 1, 1) := by decide +kernel
theorem dX11_deal_26 : decode cX11_deal 26 = .ok (.getfield 114, 3) := by decide +kernel
theorem dX11_deal_29 : decode cX11_deal 29 = .ok (.imul, 1) := by decide +kernel
theorem dX11_deal_30 : decode cX11_deal 30 = .ok (.iload_n 3, 1) := by decide +kernel
theorem dX11_deal_31 : decode cX11_deal 31 = .ok (.idiv, 1) := by decide +kernel
theorem dX11_deal_32 : decode cX11_deal 32 = .ok (.goto 6, 3) := by decide +kernel
theorem dX11_deal_35 : decode cX11_deal 35 = .ok (.iload_n 2, 1) := by decide +kernel
theorem dX11_deal_36 : decode cX11_deal 36 = .ok (.iconst 2, 1) := by decide +kernel
theorem dX11_deal_37 : decode cX11_deal 37 = .ok (.idiv, 1) := by decide +kernel
theorem dX11_deal_38 : decode cX11_deal 38 = .ok (.istore 4, 2) := by decide +kernel
theorem dX11_deal_40 : decode cX11_deal 40 = .ok (.aload_n 0, 1) := by decide +kernel
theorem dX11_deal_41 : decode cX11_deal 41 = .ok (.sipush 999, 3) := by decide +kernel
theorem dX11_deal_44 : decode cX11_deal 44 = .ok (.iload_n 2, 1) := by decide +kernel
theorem dX11_deal_45 : decode cX11_deal 45 = .ok (.iload 4, 2) := by decide +kernel
theorem dX11_deal_47 : decode cX11_deal 47 = .ok (.isub, 1) := by decide +kernel
theorem dX11_deal_48 : decode cX11_deal 48 = .ok (.invokestatic 161, 3) := by decide +kernel
theorem dX11_deal_51 : decode cX11_deal 51 = .ok (.putfield 117, 3) := by decide +kernel
theorem dX11_deal_54 : decode cX11_deal 54 = .ok (.aload_n 1, 1) := by decide +kernel
theorem dX11_deal_55 : decode cX11_deal 55 = .ok (.sipush 999, 3) := by decide +kernel
theorem dX11_deal_58 : decode cX11_deal 58 = .ok (.iload 4, 2) := by decide +kernel
theorem dX11_deal_60 : decode cX11_deal 60 = .ok (.invokestatic 161, 3) := by decide +kernel
theorem dX11_deal_63 : decode cX11_deal 63 = .ok (.putfield 117, 3) := by decide +kernel
theorem dX11_deal_66 : decode cX11_deal 66 = .ok (.return_, 1) := by decide +kernel
theorem dX11_hungerWithout_0 : decode cX11_hungerWithout 0 = .ok (.aload_n 0, 1) := by decide +kernel
theorem dX11_hungerWithout_1 : decode cX11_hungerWithout 1 = .ok (.getfield 52, 3) := by decide +kernel
theorem dX11_hungerWithout_4 : decode cX11_hungerWithout 4 = .ok (.aload_n 0, 1) := by decide +kernel
theorem dX11_hungerWithout_5 : decode cX11_hungerWithout 5 = .ok (.getfield 48, 3) := by decide +kernel
theorem dX11_hungerWithout_8 : decode cX11_hungerWithout 8 = .ok (.invokevirtual 84, 3) := by decide +kernel
theorem dX11_hungerWithout_11 : decode cX11_hungerWithout 11 = .ok (.aload_n 0, 1) := by decide +kernel
theorem dX11_hungerWithout_12 : decode cX11_hungerWithout 12 = .ok (.getfield 52, 3) := by decide +kernel
theorem dX11_hungerWithout_15 : decode cX11_hungerWithout 15 = .ok (.iload_n 1, 1) := by decide +kernel
theorem dX11_hungerWithout_16 : decode cX11_hungerWithout 16 = .ok (.invokevirtual 271, 3) := by decide +kernel
theorem dX11_hungerWithout_19 : decode cX11_hungerWithout 19 = .ok (.aload_n 0, 1) := by decide +kernel
theorem dX11_hungerWithout_20 : decode cX11_hungerWithout 20 = .ok (.getfield 52, 3) := by decide +kernel
theorem dX11_hungerWithout_23 : decode cX11_hungerWithout 23 = .ok (.iload_n 2, 1) := by decide +kernel
theorem dX11_hungerWithout_24 : decode cX11_hungerWithout 24 = .ok (.invokevirtual 201, 3) := by decide +kernel
theorem dX11_hungerWithout_27 : decode cX11_hungerWithout 27 = .ok (.ireturn, 1) := by decide +kernel
theorem dX11_wouldBeAt_0 : decode cX11_wouldBeAt 0 = .ok (.aload_n 1, 1) := by decide +kernel
theorem dX11_wouldBeAt_1 : decode cX11_wouldBeAt 1 = .ok (.getfield 121, 3) := by decide +kernel
theorem dX11_wouldBeAt_4 : decode cX11_wouldBeAt 4 = .ok (.istore 7, 2) := by decide +kernel
theorem dX11_wouldBeAt_6 : decode cX11_wouldBeAt 6 = .ok (.aload_n 1, 1) := by decide +kernel
theorem dX11_wouldBeAt_7 : decode cX11_wouldBeAt 7 = .ok (.getfield 124, 3) := by decide +kernel
theorem dX11_wouldBeAt_10 : decode cX11_wouldBeAt 10 = .ok (.istore 8, 2) := by decide +kernel
theorem dX11_wouldBeAt_12 : decode cX11_wouldBeAt 12 = .ok (.iconst 0, 1) := by decide +kernel
theorem dX11_wouldBeAt_13 : decode cX11_wouldBeAt 13 = .ok (.istore 9, 2) := by decide +kernel
theorem dX11_wouldBeAt_15 : decode cX11_wouldBeAt 15 = .ok (.iload 9, 2) := by decide +kernel
theorem dX11_wouldBeAt_17 : decode cX11_wouldBeAt 17 = .ok (.iload 4, 2) := by decide +kernel
theorem dX11_wouldBeAt_19 : decode cX11_wouldBeAt 19 = .ok (.if_icmp .ge 58, 3) := by decide +kernel
theorem dX11_wouldBeAt_22 : decode cX11_wouldBeAt 22 = .ok (.aload_n 0, 1) := by decide +kernel
theorem dX11_wouldBeAt_23 : decode cX11_wouldBeAt 23 = .ok (.getfield 48, 3) := by decide +kernel
theorem dX11_wouldBeAt_26 : decode cX11_wouldBeAt 26 = .ok (.aload_n 0, 1) := by decide +kernel
theorem dX11_wouldBeAt_27 : decode cX11_wouldBeAt 27 = .ok (.getfield 48, 3) := by decide +kernel
theorem dX11_wouldBeAt_30 : decode cX11_wouldBeAt 30 = .ok (.getfield 158, 3) := by decide +kernel
theorem dX11_wouldBeAt_33 : decode cX11_wouldBeAt 33 = .ok (.iload 9, 2) := by decide +kernel
theorem dX11_wouldBeAt_35 : decode cX11_wouldBeAt 35 = .ok (.iadd, 1) := by decide +kernel
theorem dX11_wouldBeAt_36 : decode cX11_wouldBeAt 36 = .ok (.aload_n 0, 1) := by decide +kernel
theorem dX11_wouldBeAt_37 : decode cX11_wouldBeAt 37 = .ok (.getfield 34, 3) := by decide +kernel
theorem dX11_wouldBeAt_40 : decode cX11_wouldBeAt 40 = .ok (.invokevirtual 260, 3) := by decide +kernel
theorem dX11_wouldBeAt_43 : decode cX11_wouldBeAt 43 = .ok (.iload 7, 2) := by decide +kernel
theorem dX11_wouldBeAt_45 : decode cX11_wouldBeAt 45 = .ok (.aload_n 2, 1) := by decide +kernel
theorem dX11_wouldBeAt_46 : decode cX11_wouldBeAt 46 = .ok (.aload_n 0, 1) := by decide +kernel
theorem dX11_wouldBeAt_47 : decode cX11_wouldBeAt 47 = .ok (.getfield 34, 3) := by decide +kernel
theorem dX11_wouldBeAt_50 : decode cX11_wouldBeAt 50 = .ok (.iload_n 3, 1) := by decide +kernel
theorem dX11_wouldBeAt_51 : decode cX11_wouldBeAt 51 = .ok (.invokevirtual 264, 3) := by decide +kernel
theorem dX11_wouldBeAt_54 : decode cX11_wouldBeAt 54 = .ok (.iadd, 1) := by decide +kernel
theorem dX11_wouldBeAt_55 : decode cX11_wouldBeAt 55 = .ok (.istore 7, 2) := by decide +kernel
theorem dX11_wouldBeAt_57 : decode cX11_wouldBeAt 57 = .ok (.iload 8, 2) := by decide +kernel
theorem dX11_wouldBeAt_59 : decode cX11_wouldBeAt 59 = .ok (.aload_n 2, 1) := by decide +kernel
theorem dX11_wouldBeAt_60 : decode cX11_wouldBeAt 60 = .ok (.aload_n 0, 1) := by decide +kernel
theorem dX11_wouldBeAt_61 : decode cX11_wouldBeAt 61 = .ok (.getfield 34, 3) := by decide +kernel
theorem dX11_wouldBeAt_64 : decode cX11_wouldBeAt 64 = .ok (.iload_n 3, 1) := by decide +kernel
theorem dX11_wouldBeAt_65 : decode cX11_wouldBeAt 65 = .ok (.invokevirtual 268, 3) := by decide +kernel
theorem dX11_wouldBeAt_68 : decode cX11_wouldBeAt 68 = .ok (.iadd, 1) := by decide +kernel
theorem dX11_wouldBeAt_69 : decode cX11_wouldBeAt 69 = .ok (.istore 8, 2) := by decide +kernel
theorem dX11_wouldBeAt_71 : decode cX11_wouldBeAt 71 = .ok (.iinc 9 1, 3) := by decide +kernel
theorem dX11_wouldBeAt_74 : decode cX11_wouldBeAt 74 = .ok (.goto (-59), 3) := by decide +kernel
theorem dX11_wouldBeAt_77 : decode cX11_wouldBeAt 77 = .ok (.iload 7, 2) := by decide +kernel
theorem dX11_wouldBeAt_79 : decode cX11_wouldBeAt 79 = .ok (.iload 5, 2) := by decide +kernel
theorem dX11_wouldBeAt_81 : decode cX11_wouldBeAt 81 = .ok (.if_icmp .ne 14, 3) := by decide +kernel
theorem dX11_wouldBeAt_84 : decode cX11_wouldBeAt 84 = .ok (.iload 8, 2) := by decide +kernel
theorem dX11_wouldBeAt_86 : decode cX11_wouldBeAt 86 = .ok (.iload 6, 2) := by decide +kernel
theorem dX11_wouldBeAt_88 : decode cX11_wouldBeAt 88 = .ok (.if_icmp .ne 7, 3) := by decide +kernel
theorem dX11_wouldBeAt_91 : decode cX11_wouldBeAt 91 = .ok (.iconst 1, 1) := by decide +kernel
theorem dX11_wouldBeAt_92 : decode cX11_wouldBeAt 92 = .ok (.goto 4, 3) := by decide +kernel
theorem dX11_wouldBeAt_95 : decode cX11_wouldBeAt 95 = .ok (.iconst 0, 1) := by decide +kernel
theorem dX11_wouldBeAt_96 : decode cX11_wouldBeAt 96 = .ok (.ireturn, 1) := by decide +kernel
theorem dX11_firstUntrue_0 : decode cX11_firstUntrue 0 = .ok (.aload_n 0, 1) := by decide +kernel
theorem dX11_firstUntrue_1 : decode cX11_firstUntrue 1 = .ok (.getfield 52, 3) := by decide +kernel
theorem dX11_firstUntrue_4 : decode cX11_firstUntrue 4 = .ok (.aload_n 0, 1) := by decide +kernel
theorem dX11_firstUntrue_5 : decode cX11_firstUntrue 5 = .ok (.getfield 48, 3) := by decide +kernel
theorem dX11_firstUntrue_8 : decode cX11_firstUntrue 8 = .ok (.invokevirtual 84, 3) := by decide +kernel
theorem dX11_firstUntrue_11 : decode cX11_firstUntrue 11 = .ok (.aload_n 0, 1) := by decide +kernel
theorem dX11_firstUntrue_12 : decode cX11_firstUntrue 12 = .ok (.getfield 52, 3) := by decide +kernel
theorem dX11_firstUntrue_15 : decode cX11_firstUntrue 15 = .ok (.getfield 102, 3) := by decide +kernel
theorem dX11_firstUntrue_18 : decode cX11_firstUntrue 18 = .ok (.iload_n 1, 1) := by decide +kernel
theorem dX11_firstUntrue_19 : decode cX11_firstUntrue 19 = .ok (.aaload, 1) := by decide +kernel
theorem dX11_firstUntrue_20 : decode cX11_firstUntrue 20 = .ok (.astore_n 2, 1) := by decide +kernel
theorem dX11_firstUntrue_21 : decode cX11_firstUntrue 21 = .ok (.iconst 0, 1) := by decide +kernel
theorem dX11_firstUntrue_22 : decode cX11_firstUntrue 22 = .ok (.istore_n 3, 1) := by decide +kernel
theorem dX11_firstUntrue_23 : decode cX11_firstUntrue 23 = .ok (.iload_n 3, 1) := by decide +kernel
theorem dX11_firstUntrue_24 : decode cX11_firstUntrue 24 = .ok (.aload_n 0, 1) := by decide +kernel
theorem dX11_firstUntrue_25 : decode cX11_firstUntrue 25 = .ok (.getfield 224, 3) := by decide +kernel
theorem dX11_firstUntrue_28 : decode cX11_firstUntrue 28 = .ok (.if_icmp .ge 63, 3) := by decide +kernel
theorem dX11_firstUntrue_31 : decode cX11_firstUntrue 31 = .ok (.iload_n 3, 1) := by decide +kernel
theorem dX11_firstUntrue_32 : decode cX11_firstUntrue 32 = .ok (.iconst 2, 1) := by decide +kernel
theorem dX11_firstUntrue_33 : decode cX11_firstUntrue 33 = .ok (.irem, 1) := by decide +kernel
theorem dX11_firstUntrue_34 : decode cX11_firstUntrue 34 = .ok (.ifCond .ne 7, 3) := by decide +kernel
theorem dX11_firstUntrue_37 : decode cX11_firstUntrue 37 = .ok (.iconst 1, 1) := by decide +kernel
theorem dX11_firstUntrue_38 : decode cX11_firstUntrue 38 = .ok (.goto 4, 3) := by decide +kernel
theorem dX11_firstUntrue_41 : decode cX11_firstUntrue 41 = .ok (.iconst 0, 1) := by decide +kernel
theorem dX11_firstUntrue_42 : decode cX11_firstUntrue 42 = .ok (.istore 4, 2) := by decide +kernel
theorem dX11_firstUntrue_44 : decode cX11_firstUntrue 44 = .ok (.aload_n 0, 1) := by decide +kernel
theorem dX11_firstUntrue_45 : decode cX11_firstUntrue 45 = .ok (.getfield 65, 3) := by decide +kernel
theorem dX11_firstUntrue_48 : decode cX11_firstUntrue 48 = .ok (.iload_n 3, 1) := by decide +kernel
theorem dX11_firstUntrue_49 : decode cX11_firstUntrue 49 = .ok (.iaload, 1) := by decide +kernel
theorem dX11_firstUntrue_50 : decode cX11_firstUntrue 50 = .ok (.iload 4, 2) := by decide +kernel
theorem dX11_firstUntrue_52 : decode cX11_firstUntrue 52 = .ok (.ifCond .eq 10, 3) := by decide +kernel
theorem dX11_firstUntrue_55 : decode cX11_firstUntrue 55 = .ok (.aload_n 2, 1) := by decide +kernel
theorem dX11_firstUntrue_56 : decode cX11_firstUntrue 56 = .ok (.getfield 121, 3) := by decide +kernel
theorem dX11_firstUntrue_59 : decode cX11_firstUntrue 59 = .ok (.goto 7, 3) := by decide +kernel
theorem dX11_firstUntrue_62 : decode cX11_firstUntrue 62 = .ok (.aload_n 2, 1) := by decide +kernel
theorem dX11_firstUntrue_63 : decode cX11_firstUntrue 63 = .ok (.getfield 124, 3) := by decide +kernel
theorem dX11_firstUntrue_66 : decode cX11_firstUntrue 66 = .ok (.if_icmp .eq 5, 3) := by decide +kernel
theorem dX11_firstUntrue_69 : decode cX11_firstUntrue 69 = .ok (.iload_n 3, 1) := by decide +kernel
theorem dX11_firstUntrue_70 : decode cX11_firstUntrue 70 = .ok (.ireturn, 1) := by decide +kernel
theorem dX11_firstUntrue_71 : decode cX11_firstUntrue 71 = .ok (.iload 4, 2) := by decide +kernel
theorem dX11_firstUntrue_73 : decode cX11_firstUntrue 73 = .ok (.ifCond .ne 12, 3) := by decide +kernel
theorem dX11_firstUntrue_76 : decode cX11_firstUntrue 76 = .ok (.aload_n 0, 1) := by decide +kernel
theorem dX11_firstUntrue_77 : decode cX11_firstUntrue 77 = .ok (.aload_n 0, 1) := by decide +kernel
theorem dX11_firstUntrue_78 : decode cX11_firstUntrue 78 = .ok (.getfield 52, 3) := by decide +kernel
theorem dX11_firstUntrue_81 : decode cX11_firstUntrue 81 = .ok (.invokevirtual 166, 3) := by decide +kernel
theorem dX11_firstUntrue_84 : decode cX11_firstUntrue 84 = .ok (.pop, 1) := by decide +kernel
theorem dX11_firstUntrue_85 : decode cX11_firstUntrue 85 = .ok (.iinc 3 1, 3) := by decide +kernel
theorem dX11_firstUntrue_88 : decode cX11_firstUntrue 88 = .ok (.goto (-65), 3) := by decide +kernel
theorem dX11_firstUntrue_91 : decode cX11_firstUntrue 91 = .ok (.bipush (-9), 2) := by decide +kernel
theorem dX11_firstUntrue_93 : decode cX11_firstUntrue 93 = .ok (.ireturn, 1) := by decide +kernel
theorem dJ9_floorMod_7cf53_0 : decode cJ9_floorMod_7cf53 0 = .ok (.iload_n 0, 1) := by decide +kernel
theorem dJ9_floorMod_7cf53_1 : decode cJ9_floorMod_7cf53 1 = .ok (.iload_n 1, 1) := by decide +kernel
theorem dJ9_floorMod_7cf53_2 : decode cJ9_floorMod_7cf53 2 = .ok (.irem, 1) := by decide +kernel
theorem dJ9_floorMod_7cf53_3 : decode cJ9_floorMod_7cf53 3 = .ok (.istore_n 2, 1) := by decide +kernel
theorem dJ9_floorMod_7cf53_4 : decode cJ9_floorMod_7cf53 4 = .ok (.iload_n 0, 1) := by decide +kernel
theorem dJ9_floorMod_7cf53_5 : decode cJ9_floorMod_7cf53 5 = .ok (.iload_n 1, 1) := by decide +kernel
theorem dJ9_floorMod_7cf53_6 : decode cJ9_floorMod_7cf53 6 = .ok (.ixor, 1) := by decide +kernel
theorem dJ9_floorMod_7cf53_7 : decode cJ9_floorMod_7cf53 7 = .ok (.ifCond .ge 11, 3) := by decide +kernel
theorem dJ9_floorMod_7cf53_10 : decode cJ9_floorMod_7cf53 10 = .ok (.iload_n 2, 1) := by decide +kernel
theorem dJ9_floorMod_7cf53_11 : decode cJ9_floorMod_7cf53 11 = .ok (.ifCond .eq 7, 3) := by decide +kernel
theorem dJ9_floorMod_7cf53_14 : decode cJ9_floorMod_7cf53 14 = .ok (.iload_n 2, 1) := by decide +kernel
theorem dJ9_floorMod_7cf53_15 : decode cJ9_floorMod_7cf53 15 = .ok (.iload_n 1, 1) := by decide +kernel
theorem dJ9_floorMod_7cf53_16 : decode cJ9_floorMod_7cf53 16 = .ok (.iadd, 1) := by decide +kernel
theorem dJ9_floorMod_7cf53_17 : decode cJ9_floorMod_7cf53 17 = .ok (.ireturn, 1) := by decide +kernel
theorem dJ9_floorMod_7cf53_18 : decode cJ9_floorMod_7cf53 18 = .ok (.iload_n 2, 1) := by decide +kernel
theorem dJ9_floorMod_7cf53_19 : decode cJ9_floorMod_7cf53 19 = .ok (.ireturn, 1) := by decide +kernel
theorem dJ9_abs_0f7a4_0 : decode cJ9_abs_0f7a4 0 = .ok (.iload_n 0, 1) := by decide +kernel
theorem dJ9_abs_0f7a4_1 : decode cJ9_abs_0f7a4 1 = .ok (.ifCond .ge 8, 3) := by decide +kernel
theorem dJ9_abs_0f7a4_4 : decode cJ9_abs_0f7a4 4 = .ok (.iload_n 0, 1) := by decide +kernel
theorem dJ9_abs_0f7a4_5 : decode cJ9_abs_0f7a4 5 = .ok (.ineg, 1) := by decide +kernel
theorem dJ9_abs_0f7a4_6 : decode cJ9_abs_0f7a4 6 = .ok (.goto 4, 3) := by decide +kernel
theorem dJ9_abs_0f7a4_9 : decode cJ9_abs_0f7a4 9 = .ok (.iload_n 0, 1) := by decide +kernel
theorem dJ9_abs_0f7a4_10 : decode cJ9_abs_0f7a4 10 = .ok (.ireturn, 1) := by decide +kernel
theorem dJ9_max_7cf53_0 : decode cJ9_max_7cf53 0 = .ok (.iload_n 0, 1) := by decide +kernel
theorem dJ9_max_7cf53_1 : decode cJ9_max_7cf53 1 = .ok (.iload_n 1, 1) := by decide +kernel
theorem dJ9_max_7cf53_2 : decode cJ9_max_7cf53 2 = .ok (.if_icmp .lt 7, 3) := by decide +kernel
theorem dJ9_max_7cf53_5 : decode cJ9_max_7cf53 5 = .ok (.iload_n 0, 1) := by decide +kernel
theorem dJ9_max_7cf53_6 : decode cJ9_max_7cf53 6 = .ok (.goto 4, 3) := by decide +kernel
theorem dJ9_max_7cf53_9 : decode cJ9_max_7cf53 9 = .ok (.iload_n 1, 1) := by decide +kernel
theorem dJ9_max_7cf53_10 : decode cJ9_max_7cf53 10 = .ok (.ireturn, 1) := by decide +kernel
theorem dJ9_min_7cf53_0 : decode cJ9_min_7cf53 0 = .ok (.iload_n 0, 1) := by decide +kernel
theorem dJ9_min_7cf53_1 : decode cJ9_min_7cf53 1 = .ok (.iload_n 1, 1) := by decide +kernel
theorem dJ9_min_7cf53_2 : decode cJ9_min_7cf53 2 = .ok (.if_icmp .gt 7, 3) := by decide +kernel
theorem dJ9_min_7cf53_5 : decode cJ9_min_7cf53 5 = .ok (.iload_n 0, 1) := by decide +kernel
theorem dJ9_min_7cf53_6 : decode cJ9_min_7cf53 6 = .ok (.goto 4, 3) := by decide +kernel
theorem dJ9_min_7cf53_9 : decode cJ9_min_7cf53 9 = .ok (.iload_n 1, 1) := by decide +kernel
theorem dJ9_min_7cf53_10 : decode cJ9_min_7cf53 10 = .ok (.ireturn, 1) := by decide +kernel
