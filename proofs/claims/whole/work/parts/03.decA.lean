theorem dX0_init_0 : decode cX0_init 0 = .ok (.aload_n 0, 1) := by decide +kernel
theorem dX0_init_1 : decode cX0_init 1 = .ok (.invokespecial 3, 3) := by decide +kernel
theorem dX0_init_4 : decode cX0_init 4 = .ok (.aload_n 0, 1) := by decide +kernel
theorem dX0_init_5 : decode cX0_init 5 = .ok (.bipush 30, 2) := by decide +kernel
theorem dX0_init_7 : decode cX0_init 7 = .ok (.anewarray 9, 3) := by decide +kernel
theorem dX0_init_10 : decode cX0_init 10 = .ok (.putfield 11, 3) := by decide +kernel
theorem dX0_init_13 : decode cX0_init 13 = .ok (.iconst 0, 1) := by decide +kernel
theorem dX0_init_14 : decode cX0_init 14 = .ok (.istore_n 1, 1) := by decide +kernel
theorem dX0_init_15 : decode cX0_init 15 = .ok (.iload_n 1, 1) := by decide +kernel
theorem dX0_init_16 : decode cX0_init 16 = .ok (.bipush 30, 2) := by decide +kernel
theorem dX0_init_18 : decode cX0_init 18 = .ok (.if_icmp .ge 22, 3) := by decide +kernel
theorem dX0_init_21 : decode cX0_init 21 = .ok (.aload_n 0, 1) := by decide +kernel
theorem dX0_init_22 : decode cX0_init 22 = .ok (.getfield 11, 3) := by decide +kernel
theorem dX0_init_25 : decode cX0_init 25 = .ok (.iload_n 1, 1) := by decide +kernel
theorem dX0_init_26 : decode cX0_init 26 = .ok (.new 9, 3) := by decide +kernel
theorem dX0_init_29 : decode cX0_init 29 = .ok (.dup, 1) := by decide +kernel
theorem dX0_init_30 : decode cX0_init 30 = .ok (.invokespecial 17, 3) := by decide +kernel
theorem dX0_init_33 : decode cX0_init 33 = .ok (.aastore, 1) := by decide +kernel
theorem dX0_init_34 : decode cX0_init 34 = .ok (.iinc 1 1, 3) := by decide +kernel
theorem dX0_init_37 : decode cX0_init 37 = .ok (.goto (-22), 3) := by decide +kernel
theorem dX0_init_40 : decode cX0_init 40 = .ok (.return_, 1) := by decide +kernel
theorem dX0_keep_0 : decode cX0_keep 0 = .ok (.aload_n 0, 1) := by decide +kernel
theorem dX0_keep_1 : decode cX0_keep 1 = .ok (.getfield 11, 3) := by decide +kernel
theorem dX0_keep_4 : decode cX0_keep 4 = .ok (.aload_n 0, 1) := by decide +kernel
theorem dX0_keep_5 : decode cX0_keep 5 = .ok (.getfield 18, 3) := by decide +kernel
theorem dX0_keep_8 : decode cX0_keep 8 = .ok (.aaload, 1) := by decide +kernel
theorem dX0_keep_9 : decode cX0_keep 9 = .ok (.aload_n 1, 1) := by decide +kernel
theorem dX0_keep_10 : decode cX0_keep 10 = .ok (.invokevirtual 22, 3) := by decide +kernel
theorem dX0_keep_13 : decode cX0_keep 13 = .ok (.aload_n 0, 1) := by decide +kernel
theorem dX0_keep_14 : decode cX0_keep 14 = .ok (.aload_n 0, 1) := by decide +kernel
theorem dX0_keep_15 : decode cX0_keep 15 = .ok (.getfield 18, 3) := by decide +kernel
theorem dX0_keep_18 : decode cX0_keep 18 = .ok (.iconst 1, 1) := by decide +kernel
theorem dX0_keep_19 : decode cX0_keep 19 = .ok (.iadd, 1) := by decide +kernel
theorem dX0_keep_20 : decode cX0_keep 20 = .ok (.bipush 30, 2) := by decide +kernel
theorem dX0_keep_22 : decode cX0_keep 22 = .ok (.irem, 1) := by decide +kernel
theorem dX0_keep_23 : decode cX0_keep 23 = .ok (.putfield 18, 3) := by decide +kernel
theorem dX0_keep_26 : decode cX0_keep 26 = .ok (.aload_n 0, 1) := by decide +kernel
theorem dX0_keep_27 : decode cX0_keep 27 = .ok (.bipush 30, 2) := by decide +kernel
theorem dX0_keep_29 : decode cX0_keep 29 = .ok (.aload_n 0, 1) := by decide +kernel
theorem dX0_keep_30 : decode cX0_keep 30 = .ok (.getfield 26, 3) := by decide +kernel
theorem dX0_keep_33 : decode cX0_keep 33 = .ok (.iconst 1, 1) := by decide +kernel
theorem dX0_keep_34 : decode cX0_keep 34 = .ok (.iadd, 1) := by decide +kernel
theorem dX0_keep_35 : decode cX0_keep 35 = .ok (.invokestatic 29, 3) := by decide +kernel
theorem dX0_keep_38 : decode cX0_keep 38 = .ok (.putfield 26, 3) := by decide +kernel
theorem dX0_keep_41 : decode cX0_keep 41 = .ok (.return_, 1) := by decide +kernel
theorem dX0_takeBack_0 : decode cX0_takeBack 0 = .ok (.aload_n 0, 1) := by decide +kernel
theorem dX0_takeBack_1 : decode cX0_takeBack 1 = .ok (.getfield 26, 3) := by decide +kernel
theorem dX0_takeBack_4 : decode cX0_takeBack 4 = .ok (.ifCond .ne 5, 3) := by decide +kernel
theorem dX0_takeBack_7 : decode cX0_takeBack 7 = .ok (.iconst (-1), 1) := by decide +kernel
theorem dX0_takeBack_8 : decode cX0_takeBack 8 = .ok (.ireturn, 1) := by decide +kernel
theorem dX0_takeBack_9 : decode cX0_takeBack 9 = .ok (.aload_n 0, 1) := by decide +kernel
theorem dX0_takeBack_10 : decode cX0_takeBack 10 = .ok (.aload_n 0, 1) := by decide +kernel
theorem dX0_takeBack_11 : decode cX0_takeBack 11 = .ok (.getfield 18, 3) := by decide +kernel
theorem dX0_takeBack_14 : decode cX0_takeBack 14 = .ok (.bipush 30, 2) := by decide +kernel
theorem dX0_takeBack_16 : decode cX0_takeBack 16 = .ok (.iadd, 1) := by decide +kernel
theorem dX0_takeBack_17 : decode cX0_takeBack 17 = .ok (.iconst 1, 1) := by decide +kernel
theorem dX0_takeBack_18 : decode cX0_takeBack 18 = .ok (.isub, 1) := by decide +kernel
theorem dX0_takeBack_19 : decode cX0_takeBack 19 = .ok (.bipush 30, 2) := by decide +kernel
theorem dX0_takeBack_21 : decode cX0_takeBack 21 = .ok (.irem, 1) := by decide +kernel
theorem dX0_takeBack_22 : decode cX0_takeBack 22 = .ok (.putfield 18, 3) := by decide +kernel
theorem dX0_takeBack_25 : decode cX0_takeBack 25 = .ok (.aload_n 0, 1) := by decide +kernel
theorem dX0_takeBack_26 : decode cX0_takeBack 26 = .ok (.dup, 1) := by decide +kernel
theorem dX0_takeBack_27 : decode cX0_takeBack 27 = .ok (.getfield 26, 3) := by decide +kernel
theorem dX0_takeBack_30 : decode cX0_takeBack 30 = .ok (.iconst 1, 1) := by decide +kernel
theorem dX0_takeBack_31 : decode cX0_takeBack 31 = .ok (.isub, 1) := by decide +kernel
theorem dX0_takeBack_32 : decode cX0_takeBack 32 = .ok (.putfield 26, 3) := by decide +kernel
theorem dX0_takeBack_35 : decode cX0_takeBack 35 = .ok (.aload_n 1, 1) := by decide +kernel
theorem dX0_takeBack_36 : decode cX0_takeBack 36 = .ok (.aload_n 0, 1) := by decide +kernel
theorem dX0_takeBack_37 : decode cX0_takeBack 37 = .ok (.getfield 11, 3) := by decide +kernel
theorem dX0_takeBack_40 : decode cX0_takeBack 40 = .ok (.aload_n 0, 1) := by decide +kernel
theorem dX0_takeBack_41 : decode cX0_takeBack 41 = .ok (.getfield 18, 3) := by decide +kernel
theorem dX0_takeBack_44 : decode cX0_takeBack 44 = .ok (.aaload, 1) := by decide +kernel
theorem dX0_takeBack_45 : decode cX0_takeBack 45 = .ok (.invokevirtual 35, 3) := by decide +kernel
theorem dX0_takeBack_48 : decode cX0_takeBack 48 = .ok (.aload_n 0, 1) := by decide +kernel
theorem dX0_takeBack_49 : decode cX0_takeBack 49 = .ok (.getfield 26, 3) := by decide +kernel
theorem dX0_takeBack_52 : decode cX0_takeBack 52 = .ok (.ireturn, 1) := by decide +kernel
theorem dX0_copyFrom_0 : decode cX0_copyFrom 0 = .ok (.iconst 0, 1) := by decide +kernel
theorem dX0_copyFrom_1 : decode cX0_copyFrom 1 = .ok (.istore_n 2, 1) := by decide +kernel
theorem dX0_copyFrom_2 : decode cX0_copyFrom 2 = .ok (.iload_n 2, 1) := by decide +kernel
theorem dX0_copyFrom_3 : decode cX0_copyFrom 3 = .ok (.bipush 30, 2) := by decide +kernel
theorem dX0_copyFrom_5 : decode cX0_copyFrom 5 = .ok (.if_icmp .ge 24, 3) := by decide +kernel
theorem dX0_copyFrom_8 : decode cX0_copyFrom 8 = .ok (.aload_n 0, 1) := by decide +kernel
theorem dX0_copyFrom_9 : decode cX0_copyFrom 9 = .ok (.getfield 11, 3) := by decide +kernel
theorem dX0_copyFrom_12 : decode cX0_copyFrom 12 = .ok (.iload_n 2, 1) := by decide +kernel
theorem dX0_copyFrom_13 : decode cX0_copyFrom 13 = .ok (.aaload, 1) := by decide +kernel
theorem dX0_copyFrom_14 : decode cX0_copyFrom 14 = .ok (.aload_n 1, 1) := by decide +kernel
theorem dX0_copyFrom_15 : decode cX0_copyFrom 15 = .ok (.getfield 11, 3) := by decide +kernel
theorem dX0_copyFrom_18 : decode cX0_copyFrom 18 = .ok (.iload_n 2, 1) := by decide +kernel
theorem dX0_copyFrom_19 : decode cX0_copyFrom 19 = .ok (.aaload, 1) := by decide +kernel
theorem dX0_copyFrom_20 : decode cX0_copyFrom 20 = .ok (.invokevirtual 22, 3) := by decide +kernel
theorem dX0_copyFrom_23 : decode cX0_copyFrom 23 = .ok (.iinc 2 1, 3) := by decide +kernel
theorem dX0_copyFrom_26 : decode cX0_copyFrom 26 = .ok (.goto (-24), 3) := by decide +kernel
theorem dX0_copyFrom_29 : decode cX0_copyFrom 29 = .ok (.aload_n 0, 1) := by decide +kernel
theorem dX0_copyFrom_30 : decode cX0_copyFrom 30 = .ok (.aload_n 1, 1) := by decide +kernel
theorem dX0_copyFrom_31 : decode cX0_copyFrom 31 = .ok (.getfield 18, 3) := by decide +kernel
theorem dX0_copyFrom_34 : decode cX0_copyFrom 34 = .ok (.putfield 18, 3) := by decide +kernel
theorem dX0_copyFrom_37 : decode cX0_copyFrom 37 = .ok (.aload_n 0, 1) := by decide +kernel
theorem dX0_copyFrom_38 : decode cX0_copyFrom 38 = .ok (.aload_n 1, 1) := by decide +kernel
theorem dX0_copyFrom_39 : decode cX0_copyFrom 39 = .ok (.getfield 26, 3) := by decide +kernel
theorem dX0_copyFrom_42 : decode cX0_copyFrom 42 = .ok (.putfield 26, 3) := by decide +kernel
theorem dX0_copyFrom_45 : decode cX0_copyFrom 45 = .ok (.return_, 1) := by decide +kernel
theorem dX1_init_0 : decode cX1_init 0 = .ok (.aload_n 0, 1) := by decide +kernel
theorem dX1_init_1 : decode cX1_init 1 = .ok (.invokespecial 3, 3) := by decide +kernel
theorem dX1_init_4 : decode cX1_init 4 = .ok (.aload_n 0, 1) := by decide +kernel
theorem dX1_init_5 : decode cX1_init 5 = .ok (.bipush 9, 2) := by decide +kernel
theorem dX1_init_7 : decode cX1_init 7 = .ok (.newarray .int, 2) := by decide +kernel
theorem dX1_init_9 : decode cX1_init 9 = .ok (.putfield 9, 3) := by decide +kernel
theorem dX1_init_12 : decode cX1_init 12 = .ok (.aload_n 0, 1) := by decide +kernel
theorem dX1_init_13 : decode cX1_init 13 = .ok (.bipush 9, 2) := by decide +kernel
theorem dX1_init_15 : decode cX1_init 15 = .ok (.newarray .int, 2) := by decide +kernel
theorem dX1_init_17 : decode cX1_init 17 = .ok (.putfield 15, 3) := by decide +kernel
theorem dX1_init_20 : decode cX1_init 20 = .ok (.aload_n 0, 1) := by decide +kernel
theorem dX1_init_21 : decode cX1_init 21 = .ok (.aload_n 1, 1) := by decide +kernel
theorem dX1_init_22 : decode cX1_init 22 = .ok (.putfield 18, 3) := by decide +kernel
theorem dX1_init_25 : decode cX1_init 25 = .ok (.return_, 1) := by decide +kernel
theorem dX1_passOne_0 : decode cX1_passOne 0 = .ok (.iconst 0, 1) := by decide +kernel
theorem dX1_passOne_1 : decode cX1_passOne 1 = .ok (.istore_n 2, 1) := by decide +kernel
theorem dX1_passOne_2 : decode cX1_passOne 2 = .ok (.iconst 0, 1) := by decide +kernel
theorem dX1_passOne_3 : decode cX1_passOne 3 = .ok (.istore_n 3, 1) := by decide +kernel
theorem dX1_passOne_4 : decode cX1_passOne 4 = .ok (.iload_n 3, 1) := by decide +kernel
theorem dX1_passOne_5 : decode cX1_passOne 5 = .ok (.aload_n 1, 1) := by decide +kernel
theorem dX1_passOne_6 : decode cX1_passOne 6 = .ok (.getfield 22, 3) := by decide +kernel
theorem dX1_passOne_9 : decode cX1_passOne 9 = .ok (.iconst 1, 1) := by decide +kernel
theorem dX1_passOne_10 : decode cX1_passOne 10 = .ok (.isub, 1) := by decide +kernel
theorem dX1_passOne_11 : decode cX1_passOne 11 = .ok (.if_icmp .ge 30, 3) := by decide +kernel
theorem dX1_passOne_14 : decode cX1_passOne 14 = .ok (.aload_n 1, 1) := by decide +kernel
theorem dX1_passOne_15 : decode cX1_passOne 15 = .ok (.getfield 28, 3) := by decide +kernel
theorem dX1_passOne_18 : decode cX1_passOne 18 = .ok (.iload_n 3, 1) := by decide +kernel
theorem dX1_passOne_19 : decode cX1_passOne 19 = .ok (.iaload, 1) := by decide +kernel
theorem dX1_passOne_20 : decode cX1_passOne 20 = .ok (.bipush 100, 2) := by decide +kernel
theorem dX1_passOne_22 : decode cX1_passOne 22 = .ok (.if_icmp .ge 13, 3) := by decide +kernel
theorem dX1_passOne_25 : decode cX1_passOne 25 = .ok (.iload_n 2, 1) := by decide +kernel
theorem dX1_passOne_26 : decode cX1_passOne 26 = .ok (.aload_n 0, 1) := by decide +kernel
theorem dX1_passOne_27 : decode cX1_passOne 27 = .ok (.aload_n 1, 1) := by decide +kernel
theorem dX1_passOne_28 : decode cX1_passOne 28 = .ok (.iload_n 3, 1) := by decide +kernel
theorem dX1_passOne_29 : decode cX1_passOne 29 = .ok (.iload_n 2, 1) := by decide +kernel
theorem dX1_passOne_30 : decode cX1_passOne 30 = .ok (.invokevirtual 31, 3) := by decide +kernel
theorem dX1_passOne_33 : decode cX1_passOne 33 = .ok (.ior, 1) := by decide +kernel
theorem dX1_passOne_34 : decode cX1_passOne 34 = .ok (.istore_n 2, 1) := by decide +kernel
theorem dX1_passOne_35 : decode cX1_passOne 35 = .ok (.iinc 3 1, 3) := by decide +kernel
theorem dX1_passOne_38 : decode cX1_passOne 38 = .ok (.goto (-34), 3) := by decide +kernel
theorem dX1_passOne_41 : decode cX1_passOne 41 = .ok (.aload_n 0, 1) := by decide +kernel
theorem dX1_passOne_42 : decode cX1_passOne 42 = .ok (.aload_n 1, 1) := by decide +kernel
theorem dX1_passOne_43 : decode cX1_passOne 43 = .ok (.invokevirtual 35, 3) := by decide +kernel
theorem dX1_passOne_46 : decode cX1_passOne 46 = .ok (.aload_n 1, 1) := by decide +kernel
theorem dX1_passOne_47 : decode cX1_passOne 47 = .ok (.dup, 1) := by decide +kernel
theorem dX1_passOne_48 : decode cX1_passOne 48 = .ok (.getfield 39, 3) := by decide +kernel
theorem dX1_passOne_51 : decode cX1_passOne 51 = .ok (.iconst 1, 1) := by decide +kernel
theorem dX1_passOne_52 : decode cX1_passOne 52 = .ok (.iadd, 1) := by decide +kernel
theorem dX1_passOne_53 : decode cX1_passOne 53 = .ok (.putfield 39, 3) := by decide +kernel
theorem dX1_passOne_56 : decode cX1_passOne 56 = .ok (.iload_n 2, 1) := by decide +kernel
theorem dX1_passOne_57 : decode cX1_passOne 57 = .ok (.invokestatic 42, 3) := by decide +kernel
theorem dX1_passOne_60 : decode cX1_passOne 60 = .ok (.ireturn, 1) := by decide +kernel
theorem dX1_useRope_0 : decode cX1_useRope 0 = .ok (.aload_n 1, 1) := by decide +kernel
theorem dX1_useRope_1 : decode cX1_useRope 1 = .ok (.iload_n 2, 1) := by decide +kernel
theorem dX1_useRope_2 : decode cX1_useRope 2 = .ok (.iconst 1, 1) := by decide +kernel
theorem dX1_useRope_3 : decode cX1_useRope 3 = .ok (.invokevirtual 48, 3) := by decide +kernel
theorem dX1_useRope_6 : decode cX1_useRope 6 = .ok (.iload_n 3, 1) := by decide +kernel
theorem dX1_useRope_7 : decode cX1_useRope 7 = .ok (.iconst (-1), 1) := by decide +kernel
theorem dX1_useRope_8 : decode cX1_useRope 8 = .ok (.ixor, 1) := by decide +kernel
theorem dX1_useRope_9 : decode cX1_useRope 9 = .ok (.iand, 1) := by decide +kernel
theorem dX1_useRope_10 : decode cX1_useRope 10 = .ok (.invokestatic 52, 3) := by decide +kernel
theorem dX1_useRope_13 : decode cX1_useRope 13 = .ok (.istore 4, 2) := by decide +kernel
theorem dX1_useRope_15 : decode cX1_useRope 15 = .ok (.aload_n 1, 1) := by decide +kernel
theorem dX1_useRope_16 : decode cX1_useRope 16 = .ok (.iload_n 2, 1) := by decide +kernel
theorem dX1_useRope_17 : decode cX1_useRope 17 = .ok (.iconst 1, 1) := by decide +kernel
theorem dX1_useRope_18 : decode cX1_useRope 18 = .ok (.iadd, 1) := by decide +kernel
theorem dX1_useRope_19 : decode cX1_useRope 19 = .ok (.iconst 0, 1) := by decide +kernel
theorem dX1_useRope_20 : decode cX1_useRope 20 = .ok (.invokevirtual 48, 3) := by decide +kernel
theorem dX1_useRope_23 : decode cX1_useRope 23 = .ok (.iload_n 3, 1) := by decide +kernel
theorem dX1_useRope_24 : decode cX1_useRope 24 = .ok (.iconst (-1), 1) := by decide +kernel
theorem dX1_useRope_25 : decode cX1_useRope 25 = .ok (.ixor, 1) := by decide +kernel
theorem dX1_useRope_26 : decode cX1_useRope 26 = .ok (.iand, 1) := by decide +kernel
theorem dX1_useRope_27 : decode cX1_useRope 27 = .ok (.invokestatic 52, 3) := by decide +kernel
theorem dX1_useRope_30 : decode cX1_useRope 30 = .ok (.istore 5, 2) := by decide +kernel
theorem dX1_useRope_32 : decode cX1_useRope 32 = .ok (.iload 4, 2) := by decide +kernel
theorem dX1_useRope_34 : decode cX1_useRope 34 = .ok (.iconst (-1), 1) := by decide +kernel
theorem dX1_useRope_35 : decode cX1_useRope 35 = .ok (.if_icmp .ne 11, 3) := by decide +kernel
theorem dX1_useRope_38 : decode cX1_useRope 38 = .ok (.iload 5, 2) := by decide +kernel
theorem dX1_useRope_40 : decode cX1_useRope 40 = .ok (.iconst (-1), 1) := by decide +kernel
theorem dX1_useRope_41 : decode cX1_useRope 41 = .ok (.if_icmp .ne 5, 3) := by decide +kernel
theorem dX1_useRope_44 : decode cX1_useRope 44 = .ok (.iconst 0, 1) := by decide +kernel
theorem dX1_useRope_45 : decode cX1_useRope 45 = .ok (.ireturn, 1) := by decide +kernel
theorem dX1_useRope_46 : decode cX1_useRope 46 = .ok (.iload 4, 2) := by decide +kernel
theorem dX1_useRope_48 : decode cX1_useRope 48 = .ok (.iconst (-1), 1) := by decide +kernel
theorem dX1_useRope_49 : decode cX1_useRope 49 = .ok (.if_icmp .ne 7, 3) := by decide +kernel
theorem dX1_useRope_52 : decode cX1_useRope 52 = .ok (.iconst 0, 1) := by decide +kernel
theorem dX1_useRope_53 : decode cX1_useRope 53 = .ok (.goto 10, 3) := by decide +kernel
theorem dX1_useRope_56 : decode cX1_useRope 56 = .ok (.aload_n 1, 1) := by decide +kernel
theorem dX1_useRope_57 : decode cX1_useRope 57 = .ok (.getfield 55, 3) := by decide +kernel
theorem dX1_useRope_60 : decode cX1_useRope 60 = .ok (.iload 4, 2) := by decide +kernel
theorem dX1_useRope_62 : decode cX1_useRope 62 = .ok (.iaload, 1) := by decide +kernel
theorem dX1_useRope_63 : decode cX1_useRope 63 = .ok (.istore 6, 2) := by decide +kernel
theorem dX1_useRope_65 : decode cX1_useRope 65 = .ok (.iload 5, 2) := by decide +kernel
theorem dX1_useRope_67 : decode cX1_useRope 67 = .ok (.iconst (-1), 1) := by decide +kernel
theorem dX1_useRope_68 : decode cX1_useRope 68 = .ok (.if_icmp .ne 7, 3) := by decide +kernel
theorem dX1_useRope_71 : decode cX1_useRope 71 = .ok (.iconst 0, 1) := by decide +kernel
theorem dX1_useRope_72 : decode cX1_useRope 72 = .ok (.goto 10, 3) := by decide +kernel
theorem dX1_useRope_75 : decode cX1_useRope 75 = .ok (.aload_n 1, 1) := by decide +kernel
theorem dX1_useRope_76 : decode cX1_useRope 76 = .ok (.getfield 55, 3) := by decide +kernel
theorem dX1_useRope_79 : decode cX1_useRope 79 = .ok (.iload 5, 2) := by decide +kernel
theorem dX1_useRope_81 : decode cX1_useRope 81 = .ok (.iaload, 1) := by decide +kernel
theorem dX1_useRope_82 : decode cX1_useRope 82 = .ok (.istore 7, 2) := by decide +kernel
theorem dX1_useRope_84 : decode cX1_useRope 84 = .ok (.iconst 0, 1) := by decide +kernel
theorem dX1_useRope_85 : decode cX1_useRope 85 = .ok (.istore 8, 2) := by decide +kernel
theorem dX1_useRope_87 : decode cX1_useRope 87 = .ok (.iload 4, 2) := by decide +kernel
theorem dX1_useRope_89 : decode cX1_useRope 89 = .ok (.iconst (-1), 1) := by decide +kernel
theorem dX1_useRope_90 : decode cX1_useRope 90 = .ok (.if_icmp .eq 38, 3) := by decide +kernel
theorem dX1_useRope_93 : decode cX1_useRope 93 = .ok (.aload_n 1, 1) := by decide +kernel
theorem dX1_useRope_94 : decode cX1_useRope 94 = .ok (.iload 4, 2) := by decide +kernel
theorem dX1_useRope_96 : decode cX1_useRope 96 = .ok (.aload_n 0, 1) := by decide +kernel
theorem dX1_useRope_97 : decode cX1_useRope 97 = .ok (.getfield 18, 3) := by decide +kernel
theorem dX1_useRope_100 : decode cX1_useRope 100 = .ok (.aload_n 1, 1) := by decide +kernel
theorem dX1_useRope_101 : decode cX1_useRope 101 = .ok (.iload_n 2, 1) := by decide +kernel
theorem dX1_useRope_102 : decode cX1_useRope 102 = .ok (.iload 6, 2) := by decide +kernel
theorem dX1_useRope_104 : decode cX1_useRope 104 = .ok (.invokevirtual 58, 3) := by decide +kernel
theorem dX1_useRope_107 : decode cX1_useRope 107 = .ok (.invokevirtual 63, 3) := by decide +kernel
theorem dX1_useRope_110 : decode cX1_useRope 110 = .ok (.aload_n 1, 1) := by decide +kernel
theorem dX1_useRope_111 : decode cX1_useRope 111 = .ok (.iload 4, 2) := by decide +kernel
theorem dX1_useRope_113 : decode cX1_useRope 113 = .ok (.iload_n 2, 1) := by decide +kernel
theorem dX1_useRope_114 : decode cX1_useRope 114 = .ok (.iconst 1, 1) := by decide +kernel
theorem dX1_useRope_115 : decode cX1_useRope 115 = .ok (.iadd, 1) := by decide +kernel
theorem dX1_useRope_116 : decode cX1_useRope 116 = .ok (.invokevirtual 67, 3) := by decide +kernel
theorem dX1_useRope_119 : decode cX1_useRope 119 = .ok (.iload 8, 2) := by decide +kernel
theorem dX1_useRope_121 : decode cX1_useRope 121 = .ok (.iconst 1, 1) := by decide +kernel
theorem dX1_useRope_122 : decode cX1_useRope 122 = .ok (.iload 4, 2) := by decide +kernel
theorem dX1_useRope_124 : decode cX1_useRope 124 = .ok (.ishl, 1) := by decide +kernel
theorem dX1_useRope_125 : decode cX1_useRope 125 = .ok (.ior, 1) := by decide +kernel
theorem dX1_useRope_126 : decode cX1_useRope 126 = .ok (.istore 8, 2) := by decide +kernel
theorem dX1_useRope_128 : decode cX1_useRope 128 = .ok (.iload 5, 2) := by decide +kernel
theorem dX1_useRope_130 : decode cX1_useRope 130 = .ok (.iconst (-1), 1) := by decide +kernel
theorem dX1_useRope_131 : decode cX1_useRope 131 = .ok (.if_icmp .eq 38, 3) := by decide +kernel
theorem dX1_useRope_134 : decode cX1_useRope 134 = .ok (.aload_n 1, 1) := by decide +kernel
theorem dX1_useRope_135 : decode cX1_useRope 135 = .ok (.iload 5, 2) := by decide +kernel
theorem dX1_useRope_137 : decode cX1_useRope 137 = .ok (.aload_n 0, 1) := by decide +kernel
theorem dX1_useRope_138 : decode cX1_useRope 138 = .ok (.getfield 18, 3) := by decide +kernel
theorem dX1_useRope_141 : decode cX1_useRope 141 = .ok (.aload_n 1, 1) := by decide +kernel
theorem dX1_useRope_142 : decode cX1_useRope 142 = .ok (.iload_n 2, 1) := by decide +kernel
theorem dX1_useRope_143 : decode cX1_useRope 143 = .ok (.iload 7, 2) := by decide +kernel
theorem dX1_useRope_145 : decode cX1_useRope 145 = .ok (.iload 6, 2) := by decide +kernel
theorem dX1_useRope_147 : decode cX1_useRope 147 = .ok (.invokevirtual 70, 3) := by decide +kernel
theorem dX1_useRope_150 : decode cX1_useRope 150 = .ok (.invokevirtual 63, 3) := by decide +kernel
theorem dX1_useRope_153 : decode cX1_useRope 153 = .ok (.aload_n 1, 1) := by decide +kernel
theorem dX1_useRope_154 : decode cX1_useRope 154 = .ok (.iload 5, 2) := by decide +kernel
theorem dX1_useRope_156 : decode cX1_useRope 156 = .ok (.iload_n 2, 1) := by decide +kernel
theorem dX1_useRope_157 : decode cX1_useRope 157 = .ok (.invokevirtual 67, 3) := by decide +kernel
theorem dX1_useRope_160 : decode cX1_useRope 160 = .ok (.iload 8, 2) := by decide +kernel
theorem dX1_useRope_162 : decode cX1_useRope 162 = .ok (.iconst 1, 1) := by decide +kernel
theorem dX1_useRope_163 : decode cX1_useRope 163 = .ok (.iload 5, 2) := by decide +kernel
theorem dX1_useRope_165 : decode cX1_useRope 165 = .ok (.ishl, 1) := by decide +kernel
theorem dX1_useRope_166 : decode cX1_useRope 166 = .ok (.ior, 1) := by decide +kernel
theorem dX1_useRope_167 : decode cX1_useRope 167 = .ok (.istore 8, 2) := by decide +kernel
theorem dX1_useRope_169 : decode cX1_useRope 169 = .ok (.aload_n 1, 1) := by decide +kernel
theorem dX1_useRope_170 : decode cX1_useRope 170 = .ok (.getfield 28, 3) := by decide +kernel
theorem dX1_useRope_173 : decode cX1_useRope 173 = .ok (.iload_n 2, 1) := by decide +kernel
theorem dX1_useRope_174 : decode cX1_useRope 174 = .ok (.iaload, 1) := by decide +kernel
theorem dX1_useRope_175 : decode cX1_useRope 175 = .ok (.aload_n 0, 1) := by decide +kernel
theorem dX1_useRope_176 : decode cX1_useRope 176 = .ok (.getfield 18, 3) := by decide +kernel
theorem dX1_useRope_179 : decode cX1_useRope 179 = .ok (.aload_n 1, 1) := by decide +kernel
theorem dX1_useRope_180 : decode cX1_useRope 180 = .ok (.iload_n 2, 1) := by decide +kernel
theorem dX1_useRope_181 : decode cX1_useRope 181 = .ok (.iload 6, 2) := by decide +kernel
theorem dX1_useRope_183 : decode cX1_useRope 183 = .ok (.iload 7, 2) := by decide +kernel
theorem dX1_useRope_185 : decode cX1_useRope 185 = .ok (.iadd, 1) := by decide +kernel
theorem dX1_useRope_186 : decode cX1_useRope 186 = .ok (.invokevirtual 74, 3) := by decide +kernel
theorem dX1_useRope_189 : decode cX1_useRope 189 = .ok (.iadd, 1) := by decide +kernel
theorem dX1_useRope_190 : decode cX1_useRope 190 = .ok (.istore 9, 2) := by decide +kernel
theorem dX1_useRope_192 : decode cX1_useRope 192 = .ok (.aload_n 1, 1) := by decide +kernel
theorem dX1_useRope_193 : decode cX1_useRope 193 = .ok (.getfield 28, 3) := by decide +kernel
theorem dX1_useRope_196 : decode cX1_useRope 196 = .ok (.iload_n 2, 1) := by decide +kernel
theorem dX1_useRope_197 : decode cX1_useRope 197 = .ok (.bipush 100, 2) := by decide +kernel
theorem dX1_useRope_199 : decode cX1_useRope 199 = .ok (.iload 9, 2) := by decide +kernel
theorem dX1_useRope_201 : decode cX1_useRope 201 = .ok (.invokestatic 77, 3) := by decide +kernel
theorem dX1_useRope_204 : decode cX1_useRope 204 = .ok (.iastore, 1) := by decide +kernel
theorem dX1_useRope_205 : decode cX1_useRope 205 = .ok (.iload 8, 2) := by decide +kernel
theorem dX1_useRope_207 : decode cX1_useRope 207 = .ok (.ireturn, 1) := by decide +kernel
theorem dX1_letWaterOver_0 : decode cX1_letWaterOver 0 = .ok (.iconst 0, 1) := by decide +kernel
theorem dX1_letWaterOver_1 : decode cX1_letWaterOver 1 = .ok (.istore_n 2, 1) := by decide +kernel
theorem dX1_letWaterOver_2 : decode cX1_letWaterOver 2 = .ok (.iload_n 2, 1) := by decide +kernel
theorem dX1_letWaterOver_3 : decode cX1_letWaterOver 3 = .ok (.aload_n 1, 1) := by decide +kernel
theorem dX1_letWaterOver_4 : decode cX1_letWaterOver 4 = .ok (.getfield 22, 3) := by decide +kernel
theorem dX1_letWaterOver_7 : decode cX1_letWaterOver 7 = .ok (.if_icmp .ge 60, 3) := by decide +kernel
theorem dX1_letWaterOver_10 : decode cX1_letWaterOver 10 = .ok (.aload_n 1, 1) := by decide +kernel
theorem dX1_letWaterOver_11 : decode cX1_letWaterOver 11 = .ok (.getfield 83, 3) := by decide +kernel
theorem dX1_letWaterOver_14 : decode cX1_letWaterOver 14 = .ok (.iload_n 2, 1) := by decide +kernel
theorem dX1_letWaterOver_15 : decode cX1_letWaterOver 15 = .ok (.iaload, 1) := by decide +kernel
theorem dX1_letWaterOver_16 : decode cX1_letWaterOver 16 = .ok (.istore_n 3, 1) := by decide +kernel
theorem dX1_letWaterOver_17 : decode cX1_letWaterOver 17 = .ok (.aload_n 0, 1) := by decide +kernel
theorem dX1_letWaterOver_18 : decode cX1_letWaterOver 18 = .ok (.getfield 9, 3) := by decide +kernel
theorem dX1_letWaterOver_21 : decode cX1_letWaterOver 21 = .ok (.iload_n 2, 1) := by decide +kernel
theorem dX1_letWaterOver_22 : decode cX1_letWaterOver 22 = .ok (.aload_n 0, 1) := by decide +kernel
theorem dX1_letWaterOver_23 : decode cX1_letWaterOver 23 = .ok (.getfield 18, 3) := by decide +kernel
theorem dX1_letWaterOver_26 : decode cX1_letWaterOver 26 = .ok (.aload_n 1, 1) := by decide +kernel
theorem dX1_letWaterOver_27 : decode cX1_letWaterOver 27 = .ok (.iload_n 2, 1) := by decide +kernel
theorem dX1_letWaterOver_28 : decode cX1_letWaterOver 28 = .ok (.invokevirtual 86, 3) := by decide +kernel
theorem dX1_letWaterOver_31 : decode cX1_letWaterOver 31 = .ok (.iastore, 1) := by decide +kernel
theorem dX1_letWaterOver_32 : decode cX1_letWaterOver 32 = .ok (.aload_n 0, 1) := by decide +kernel
theorem dX1_letWaterOver_33 : decode cX1_letWaterOver 33 = .ok (.getfield 15, 3) := by decide +kernel
theorem dX1_letWaterOver_36 : decode cX1_letWaterOver 36 = .ok (.iload_n 2, 1) := by decide +kernel
theorem dX1_letWaterOver_37 : decode cX1_letWaterOver 37 = .ok (.iload_n 3, 1) := by decide +kernel
theorem dX1_letWaterOver_38 : decode cX1_letWaterOver 38 = .ok (.ifCond .ne 7, 3) := by decide +kernel
theorem dX1_letWaterOver_41 : decode cX1_letWaterOver 41 = .ok (.iconst 0, 1) := by decide +kernel
theorem dX1_letWaterOver_42 : decode cX1_letWaterOver 42 = .ok (.goto 18, 3) := by decide +kernel
theorem dX1_letWaterOver_45 : decode cX1_letWaterOver 45 = .ok (.aload_n 1, 1) := by decide +kernel
theorem dX1_letWaterOver_46 : decode cX1_letWaterOver 46 = .ok (.getfield 90, 3) := by decide +kernel
theorem dX1_letWaterOver_49 : decode cX1_letWaterOver 49 = .ok (.iload_n 2, 1) := by decide +kernel
theorem dX1_letWaterOver_50 : decode cX1_letWaterOver 50 = .ok (.iaload, 1) := by decide +kernel
theorem dX1_letWaterOver_51 : decode cX1_letWaterOver 51 = .ok (.aload_n 0, 1) := by decide +kernel
theorem dX1_letWaterOver_52 : decode cX1_letWaterOver 52 = .ok (.getfield 9, 3) := by decide +kernel
theorem dX1_letWaterOver_55 : decode cX1_letWaterOver 55 = .ok (.iload_n 2, 1) := by decide +kernel
theorem dX1_letWaterOver_56 : decode cX1_letWaterOver 56 = .ok (.iaload, 1) := by decide +kernel
theorem dX1_letWaterOver_57 : decode cX1_letWaterOver 57 = .ok (.imul, 1) := by decide +kernel
theorem dX1_letWaterOver_58 : decode cX1_letWaterOver 58 = .ok (.iload_n 3, 1) := by decide +kernel
theorem dX1_letWaterOver_59 : decode cX1_letWaterOver 59 = .ok (.idiv, 1) := by decide +kernel
theorem dX1_letWaterOver_60 : decode cX1_letWaterOver 60 = .ok (.iastore, 1) := by decide +kernel
theorem dX1_letWaterOver_61 : decode cX1_letWaterOver 61 = .ok (.iinc 2 1, 3) := by decide +kernel
theorem dX1_letWaterOver_64 : decode cX1_letWaterOver 64 = .ok (.goto (-62), 3) := by decide +kernel
theorem dX1_letWaterOver_67 : decode cX1_letWaterOver 67 = .ok (.iconst 0, 1) := by decide +kernel
theorem dX1_letWaterOver_68 : decode cX1_letWaterOver 68 = .ok (.istore_n 2, 1) := by decide +kernel
theorem dX1_letWaterOver_69 : decode cX1_letWaterOver 69 = .ok (.iload_n 2, 1) := by decide +kernel
theorem dX1_letWaterOver_70 : decode cX1_letWaterOver 70 = .ok (.aload_n 1, 1) := by decide +kernel
theorem dX1_letWaterOver_71 : decode cX1_letWaterOver 71 = .ok (.getfield 22, 3) := by decide +kernel
theorem dX1_letWaterOver_74 : decode cX1_letWaterOver 74 = .ok (.if_icmp .ge 99, 3) := by decide +kernel
theorem dX1_letWaterOver_77 : decode cX1_letWaterOver 77 = .ok (.iload_n 2, 1) := by decide +kernel
theorem dX1_letWaterOver_78 : decode cX1_letWaterOver 78 = .ok (.ifCond .ne 7, 3) := by decide +kernel
theorem dX1_letWaterOver_81 : decode cX1_letWaterOver 81 = .ok (.iconst 0, 1) := by decide +kernel
theorem dX1_letWaterOver_82 : decode cX1_letWaterOver 82 = .ok (.goto 11, 3) := by decide +kernel
theorem dX1_letWaterOver_85 : decode cX1_letWaterOver 85 = .ok (.aload_n 0, 1) := by decide +kernel
theorem dX1_letWaterOver_86 : decode cX1_letWaterOver 86 = .ok (.getfield 9, 3) := by decide +kernel
theorem dX1_letWaterOver_89 : decode cX1_letWaterOver 89 = .ok (.iload_n 2, 1) := by decide +kernel
theorem dX1_letWaterOver_90 : decode cX1_letWaterOver 90 = .ok (.iconst 1, 1) := by decide +kernel
theorem dX1_letWaterOver_91 : decode cX1_letWaterOver 91 = .ok (.isub, 1) := by decide +kernel
theorem dX1_letWaterOver_92 : decode cX1_letWaterOver 92 = .ok (.iaload, 1) := by decide +kernel
theorem dX1_letWaterOver_93 : decode cX1_letWaterOver 93 = .ok (.istore_n 3, 1) := by decide +kernel
theorem dX1_letWaterOver_94 : decode cX1_letWaterOver 94 = .ok (.iload_n 2, 1) := by decide +kernel
theorem dX1_letWaterOver_95 : decode cX1_letWaterOver 95 = .ok (.ifCond .ne 7, 3) := by decide +kernel
theorem dX1_letWaterOver_98 : decode cX1_letWaterOver 98 = .ok (.iconst 0, 1) := by decide +kernel
theorem dX1_letWaterOver_99 : decode cX1_letWaterOver 99 = .ok (.goto 11, 3) := by decide +kernel
theorem dX1_letWaterOver_102 : decode cX1_letWaterOver 102 = .ok (.aload_n 0, 1) := by decide +kernel
theorem dX1_letWaterOver_103 : decode cX1_letWaterOver 103 = .ok (.getfield 15, 3) := by decide +kernel
theorem dX1_letWaterOver_106 : decode cX1_letWaterOver 106 = .ok (.iload_n 2, 1) := by decide +kernel
theorem dX1_letWaterOver_107 : decode cX1_letWaterOver 107 = .ok (.iconst 1, 1) := by decide +kernel
theorem dX1_letWaterOver_108 : decode cX1_letWaterOver 108 = .ok (.isub, 1) := by decide +kernel
theorem dX1_letWaterOver_109 : decode cX1_letWaterOver 109 = .ok (.iaload, 1) := by decide +kernel
theorem dX1_letWaterOver_110 : decode cX1_letWaterOver 110 = .ok (.istore 4, 2) := by decide +kernel
theorem dX1_letWaterOver_112 : decode cX1_letWaterOver 112 = .ok (.aload_n 1, 1) := by decide +kernel
theorem dX1_letWaterOver_113 : decode cX1_letWaterOver 113 = .ok (.getfield 83, 3) := by decide +kernel
theorem dX1_letWaterOver_116 : decode cX1_letWaterOver 116 = .ok (.iload_n 2, 1) := by decide +kernel
theorem dX1_letWaterOver_117 : decode cX1_letWaterOver 117 = .ok (.sipush 999, 3) := by decide +kernel
theorem dX1_letWaterOver_120 : decode cX1_letWaterOver 120 = .ok (.aload_n 1, 1) := by decide +kernel
theorem dX1_letWaterOver_121 : decode cX1_letWaterOver 121 = .ok (.getfield 83, 3) := by decide +kernel
theorem dX1_letWaterOver_124 : decode cX1_letWaterOver 124 = .ok (.iload_n 2, 1) := by decide +kernel
theorem dX1_letWaterOver_125 : decode cX1_letWaterOver 125 = .ok (.iaload, 1) := by decide +kernel
theorem dX1_letWaterOver_126 : decode cX1_letWaterOver 126 = .ok (.aload_n 0, 1) := by decide +kernel
theorem dX1_letWaterOver_127 : decode cX1_letWaterOver 127 = .ok (.getfield 9, 3) := by decide +kernel
theorem dX1_letWaterOver_130 : decode cX1_letWaterOver 130 = .ok (.iload_n 2, 1) := by decide +kernel
theorem dX1_letWaterOver_131 : decode cX1_letWaterOver 131 = .ok (.iaload, 1) := by decide +kernel
theorem dX1_letWaterOver_132 : decode cX1_letWaterOver 132 = .ok (.isub, 1) := by decide +kernel
theorem dX1_letWaterOver_133 : decode cX1_letWaterOver 133 = .ok (.iload_n 3, 1) := by decide +kernel
theorem dX1_letWaterOver_134 : decode cX1_letWaterOver 134 = .ok (.iadd, 1) := by decide +kernel
theorem dX1_letWaterOver_135 : decode cX1_letWaterOver 135 = .ok (.invokestatic 77, 3) := by decide +kernel
theorem dX1_letWaterOver_138 : decode cX1_letWaterOver 138 = .ok (.iastore, 1) := by decide +kernel
theorem dX1_letWaterOver_139 : decode cX1_letWaterOver 139 = .ok (.aload_n 1, 1) := by decide +kernel
theorem dX1_letWaterOver_140 : decode cX1_letWaterOver 140 = .ok (.getfield 90, 3) := by decide +kernel
theorem dX1_letWaterOver_143 : decode cX1_letWaterOver 143 = .ok (.iload_n 2, 1) := by decide +kernel
theorem dX1_letWaterOver_144 : decode cX1_letWaterOver 144 = .ok (.sipush 999, 3) := by decide +kernel
theorem dX1_letWaterOver_147 : decode cX1_letWaterOver 147 = .ok (.aload_n 1, 1) := by decide +kernel
theorem dX1_letWaterOver_148 : decode cX1_letWaterOver 148 = .ok (.getfield 90, 3) := by decide +kernel
theorem dX1_letWaterOver_151 : decode cX1_letWaterOver 151 = .ok (.iload_n 2, 1) := by decide +kernel
theorem dX1_letWaterOver_152 : decode cX1_letWaterOver 152 = .ok (.iaload, 1) := by decide +kernel
theorem dX1_letWaterOver_153 : decode cX1_letWaterOver 153 = .ok (.aload_n 0, 1) := by decide +kernel
theorem dX1_letWaterOver_154 : decode cX1_letWaterOver 154 = .ok (.getfield 15, 3) := by decide +kernel
theorem dX1_letWaterOver_157 : decode cX1_letWaterOver 157 = .ok (.iload_n 2, 1) := by decide +kernel
theorem dX1_letWaterOver_158 : decode cX1_letWaterOver 158 = .ok (.iaload, 1) := by decide +kernel
theorem dX1_letWaterOver_159 : decode cX1_letWaterOver 159 = .ok (.isub, 1) := by decide +kernel
theorem dX1_letWaterOver_160 : decode cX1_letWaterOver 160 = .ok (.iload 4, 2) := by decide +kernel
theorem dX1_letWaterOver_162 : decode cX1_letWaterOver 162 = .ok (.iadd, 1) := by decide +kernel
theorem dX1_letWaterOver_163 : decode cX1_letWaterOver 163 = .ok (.invokestatic 77, 3) := by decide +kernel
theorem dX1_letWaterOver_166 : decode cX1_letWaterOver 166 = .ok (.iastore, 1) := by decide +kernel
theorem dX1_letWaterOver_167 : decode cX1_letWaterOver 167 = .ok (.iinc 2 1, 3) := by decide +kernel
theorem dX1_letWaterOver_170 : decode cX1_letWaterOver 170 = .ok (.goto (-101), 3) := by decide +kernel
theorem dX1_letWaterOver_173 : decode cX1_letWaterOver 173 = .ok (.aload_n 1, 1) := by decide +kernel
theorem dX1_letWaterOver_174 : decode cX1_letWaterOver 174 = .ok (.getfield 22, 3) := by decide +kernel
theorem dX1_letWaterOver_177 : decode cX1_letWaterOver 177 = .ok (.ifCond .le 53, 3) := by decide +kernel
theorem dX1_letWaterOver_180 : decode cX1_letWaterOver 180 = .ok (.aload_n 1, 1) := by decide +kernel
theorem dX1_letWaterOver_181 : decode cX1_letWaterOver 181 = .ok (.ldc 93, 2) := by decide +kernel
theorem dX1_letWaterOver_183 : decode cX1_letWaterOver 183 = .ok (.aload_n 1, 1) := by decide +kernel
theorem dX1_letWaterOver_184 : decode cX1_letWaterOver 184 = .ok (.getfield 94, 3) := by decide +kernel
theorem dX1_letWaterOver_187 : decode cX1_letWaterOver 187 = .ok (.aload_n 0, 1) := by decide +kernel
theorem dX1_letWaterOver_188 : decode cX1_letWaterOver 188 = .ok (.getfield 9, 3) := by decide +kernel
theorem dX1_letWaterOver_191 : decode cX1_letWaterOver 191 = .ok (.aload_n 1, 1) := by decide +kernel
theorem dX1_letWaterOver_192 : decode cX1_letWaterOver 192 = .ok (.getfield 22, 3) := by decide +kernel
theorem dX1_letWaterOver_195 : decode cX1_letWaterOver 195 = .ok (.iconst 1, 1) := by decide +kernel
theorem dX1_letWaterOver_196 : decode cX1_letWaterOver 196 = .ok (.isub, 1) := by decide +kernel
theorem dX1_letWaterOver_197 : decode cX1_letWaterOver 197 = .ok (.iaload, 1) := by decide +kernel
theorem dX1_letWaterOver_198 : decode cX1_letWaterOver 198 = .ok (.iadd, 1) := by decide +kernel
theorem dX1_letWaterOver_199 : decode cX1_letWaterOver 199 = .ok (.invokestatic 77, 3) := by decide +kernel
theorem dX1_letWaterOver_202 : decode cX1_letWaterOver 202 = .ok (.putfield 94, 3) := by decide +kernel
theorem dX1_letWaterOver_205 : decode cX1_letWaterOver 205 = .ok (.aload_n 1, 1) := by decide +kernel
theorem dX1_letWaterOver_206 : decode cX1_letWaterOver 206 = .ok (.ldc 93, 2) := by decide +kernel
theorem dX1_letWaterOver_208 : decode cX1_letWaterOver 208 = .ok (.aload_n 1, 1) := by decide +kernel
theorem dX1_letWaterOver_209 : decode cX1_letWaterOver 209 = .ok (.getfield 97, 3) := by decide +kernel
theorem dX1_letWaterOver_212 : decode cX1_letWaterOver 212 = .ok (.aload_n 0, 1) := by decide +kernel
theorem dX1_letWaterOver_213 : decode cX1_letWaterOver 213 = .ok (.getfield 15, 3) := by decide +kernel
theorem dX1_letWaterOver_216 : decode cX1_letWaterOver 216 = .ok (.aload_n 1, 1) := by decide +kernel
theorem dX1_letWaterOver_217 : decode cX1_letWaterOver 217 = .ok (.getfield 22, 3) := by decide +kernel
theorem dX1_letWaterOver_220 : decode cX1_letWaterOver 220 = .ok (.iconst 1, 1) := by decide +kernel
theorem dX1_letWaterOver_221 : decode cX1_letWaterOver 221 = .ok (.isub, 1) := by decide +kernel
theorem dX1_letWaterOver_222 : decode cX1_letWaterOver 222 = .ok (.iaload, 1) := by decide +kernel
theorem dX1_letWaterOver_223 : decode cX1_letWaterOver 223 = .ok (.iadd, 1) := by decide +kernel
theorem dX1_letWaterOver_224 : decode cX1_letWaterOver 224 = .ok (.invokestatic 77, 3) := by decide +kernel
theorem dX1_letWaterOver_227 : decode cX1_letWaterOver 227 = .ok (.putfield 97, 3) := by decide +kernel
theorem dX1_letWaterOver_230 : decode cX1_letWaterOver 230 = .ok (.return_, 1) := by decide +kernel
theorem dX2_init_0 : decode cX2_init 0 = .ok (.aload_n 0, 1) := by decide +kernel
theorem dX2_init_1 : decode cX2_init 1 = .ok (.invokespecial 3, 3) := by decide +kernel
theorem dX2_init_4 : decode cX2_init 4 = .ok (.aload_n 0, 1) := by decide +kernel
theorem dX2_init_5 : decode cX2_init 5 = .ok (.new 9, 3) := by decide +kernel
theorem dX2_init_8 : decode cX2_init 8 = .ok (.dup, 1) := by decide +kernel
theorem dX2_init_9 : decode cX2_init 9 = .ok (.invokespecial 11, 3) := by decide +kernel
theorem dX2_init_12 : decode cX2_init 12 = .ok (.putfield 12, 3) := by decide +kernel
theorem dX2_init_15 : decode cX2_init 15 = .ok (.aload_n 0, 1) := by decide +kernel
theorem dX2_init_16 : decode cX2_init 16 = .ok (.aload_n 0, 1) := by decide +kernel
theorem dX2_init_17 : decode cX2_init 17 = .ok (.getfield 12, 3) := by decide +kernel
theorem dX2_init_20 : decode cX2_init 20 = .ok (.putfield 18, 3) := by decide +kernel
theorem dX2_init_23 : decode cX2_init 23 = .ok (.aload_n 0, 1) := by decide +kernel
theorem dX2_init_24 : decode cX2_init 24 = .ok (.bipush 64, 2) := by decide +kernel
theorem dX2_init_26 : decode cX2_init 26 = .ok (.newarray .int, 2) := by decide +kernel
theorem dX2_init_28 : decode cX2_init 28 = .ok (.putfield 21, 3) := by decide +kernel
theorem dX2_init_31 : decode cX2_init 31 = .ok (.return_, 1) := by decide +kernel
theorem dX2_takes_0 : decode cX2_takes 0 = .ok (.aload_n 0, 1) := by decide +kernel
theorem dX2_takes_1 : decode cX2_takes 1 = .ok (.sipush 128, 3) := by decide +kernel
theorem dX2_takes_4 : decode cX2_takes 4 = .ok (.invokevirtual 25, 3) := by decide +kernel
theorem dX2_takes_7 : decode cX2_takes 7 = .ok (.ifCond .eq 24, 3) := by decide +kernel
theorem dX2_takes_10 : decode cX2_takes 10 = .ok (.iconst 0, 1) := by decide +kernel
theorem dX2_takes_11 : decode cX2_takes 11 = .ok (.aload_n 0, 1) := by decide +kernel
theorem dX2_takes_12 : decode cX2_takes 12 = .ok (.sipush 128, 3) := by decide +kernel
theorem dX2_takes_15 : decode cX2_takes 15 = .ok (.aload_n 1, 1) := by decide +kernel
theorem dX2_takes_16 : decode cX2_takes 16 = .ok (.iload_n 2, 1) := by decide +kernel
theorem dX2_takes_17 : decode cX2_takes 17 = .ok (.iload_n 3, 1) := by decide +kernel
theorem dX2_takes_18 : decode cX2_takes 18 = .ok (.iconst 0, 1) := by decide +kernel
theorem dX2_takes_19 : decode cX2_takes 19 = .ok (.invokevirtual 29, 3) := by decide +kernel
theorem dX2_takes_22 : decode cX2_takes 22 = .ok (.sipush 9999, 3) := by decide +kernel
theorem dX2_takes_25 : decode cX2_takes 25 = .ok (.invokestatic 33, 3) := by decide +kernel
theorem dX2_takes_28 : decode cX2_takes 28 = .ok (.goto 9, 3) := by decide +kernel
theorem dX2_takes_31 : decode cX2_takes 31 = .ok (.aload_n 1, 1) := by decide +kernel
theorem dX2_takes_32 : decode cX2_takes 32 = .ok (.getfield 37, 3) := by decide +kernel
theorem dX2_takes_35 : decode cX2_takes 35 = .ok (.iload_n 2, 1) := by decide +kernel
theorem dX2_takes_36 : decode cX2_takes 36 = .ok (.iaload, 1) := by decide +kernel
theorem dX2_takes_37 : decode cX2_takes 37 = .ok (.ireturn, 1) := by decide +kernel
theorem dX2_hauls_0 : decode cX2_hauls 0 = .ok (.aload_n 0, 1) := by decide +kernel
theorem dX2_hauls_1 : decode cX2_hauls 1 = .ok (.sipush 129, 3) := by decide +kernel
theorem dX2_hauls_4 : decode cX2_hauls 4 = .ok (.invokevirtual 25, 3) := by decide +kernel
theorem dX2_hauls_7 : decode cX2_hauls 7 = .ok (.ifCond .eq 23, 3) := by decide +kernel
theorem dX2_hauls_10 : decode cX2_hauls 10 = .ok (.iconst 0, 1) := by decide +kernel
theorem dX2_hauls_11 : decode cX2_hauls 11 = .ok (.aload_n 0, 1) := by decide +kernel
theorem dX2_hauls_12 : decode cX2_hauls 12 = .ok (.sipush 129, 3) := by decide +kernel
theorem dX2_hauls_15 : decode cX2_hauls 15 = .ok (.aload_n 1, 1) := by decide +kernel
theorem dX2_hauls_16 : decode cX2_hauls 16 = .ok (.iload_n 2, 1) := by decide +kernel
theorem dX2_hauls_17 : decode cX2_hauls 17 = .ok (.iload_n 3, 1) := by decide +kernel
theorem dX2_hauls_18 : decode cX2_hauls 18 = .ok (.iload 4, 2) := by decide +kernel
theorem dX2_hauls_20 : decode cX2_hauls 20 = .ok (.invokevirtual 29, 3) := by decide +kernel
theorem dX2_hauls_23 : decode cX2_hauls 23 = .ok (.sipush 9999, 3) := by decide +kernel
theorem dX2_hauls_26 : decode cX2_hauls 26 = .ok (.invokestatic 33, 3) := by decide +kernel
theorem dX2_hauls_29 : decode cX2_hauls 29 = .ok (.ireturn, 1) := by decide +kernel
theorem dX2_hauls_30 : decode cX2_hauls 30 = .ok (.iconst 0, 1) := by decide +kernel
theorem dX2_hauls_31 : decode cX2_hauls 31 = .ok (.iload_n 3, 1) := by decide +kernel
theorem dX2_hauls_32 : decode cX2_hauls 32 = .ok (.iload 4, 2) := by decide +kernel
theorem dX2_hauls_34 : decode cX2_hauls 34 = .ok (.isub, 1) := by decide +kernel
theorem dX2_hauls_35 : decode cX2_hauls 35 = .ok (.invokestatic 42, 3) := by decide +kernel
theorem dX2_hauls_38 : decode cX2_hauls 38 = .ok (.aload_n 1, 1) := by decide +kernel
theorem dX2_hauls_39 : decode cX2_hauls 39 = .ok (.getfield 48, 3) := by decide +kernel
theorem dX2_hauls_42 : decode cX2_hauls 42 = .ok (.iload_n 2, 1) := by decide +kernel
theorem dX2_hauls_43 : decode cX2_hauls 43 = .ok (.iaload, 1) := by decide +kernel
theorem dX2_hauls_44 : decode cX2_hauls 44 = .ok (.imul, 1) := by decide +kernel
theorem dX2_hauls_45 : decode cX2_hauls 45 = .ok (.ireturn, 1) := by decide +kernel
theorem dX2_wears_0 : decode cX2_wears 0 = .ok (.aload_n 0, 1) := by decide +kernel
theorem dX2_wears_1 : decode cX2_wears 1 = .ok (.sipush 130, 3) := by decide +kernel
theorem dX2_wears_4 : decode cX2_wears 4 = .ok (.invokevirtual 25, 3) := by decide +kernel
theorem dX2_wears_7 : decode cX2_wears 7 = .ok (.ifCond .eq 23, 3) := by decide +kernel
theorem dX2_wears_10 : decode cX2_wears 10 = .ok (.iconst 0, 1) := by decide +kernel
theorem dX2_wears_11 : decode cX2_wears 11 = .ok (.aload_n 0, 1) := by decide +kernel
theorem dX2_wears_12 : decode cX2_wears 12 = .ok (.sipush 130, 3) := by decide +kernel
theorem dX2_wears_15 : decode cX2_wears 15 = .ok (.aload_n 1, 1) := by decide +kernel
theorem dX2_wears_16 : decode cX2_wears 16 = .ok (.iload_n 2, 1) := by decide +kernel
theorem dX2_wears_17 : decode cX2_wears 17 = .ok (.iload_n 3, 1) := by decide +kernel
theorem dX2_wears_18 : decode cX2_wears 18 = .ok (.iconst 0, 1) := by decide +kernel
theorem dX2_wears_19 : decode cX2_wears 19 = .ok (.invokevirtual 29, 3) := by decide +kernel
theorem dX2_wears_22 : decode cX2_wears 22 = .ok (.bipush 100, 2) := by decide +kernel
theorem dX2_wears_24 : decode cX2_wears 24 = .ok (.invokestatic 33, 3) := by decide +kernel
theorem dX2_wears_27 : decode cX2_wears 27 = .ok (.goto 4, 3) := by decide +kernel
theorem dX2_wears_30 : decode cX2_wears 30 = .ok (.iconst 1, 1) := by decide +kernel
theorem dX2_wears_31 : decode cX2_wears 31 = .ok (.ireturn, 1) := by decide +kernel
theorem dX2_flows_0 : decode cX2_flows 0 = .ok (.aload_n 0, 1) := by decide +kernel
theorem dX2_flows_1 : decode cX2_flows 1 = .ok (.sipush 131, 3) := by decide +kernel
theorem dX2_flows_4 : decode cX2_flows 4 = .ok (.invokevirtual 25, 3) := by decide +kernel
theorem dX2_flows_7 : decode cX2_flows 7 = .ok (.ifCond .eq 25, 3) := by decide +kernel
theorem dX2_flows_10 : decode cX2_flows 10 = .ok (.iconst 0, 1) := by decide +kernel
theorem dX2_flows_11 : decode cX2_flows 11 = .ok (.aload_n 0, 1) := by decide +kernel
theorem dX2_flows_12 : decode cX2_flows 12 = .ok (.sipush 131, 3) := by decide +kernel
theorem dX2_flows_15 : decode cX2_flows 15 = .ok (.aload_n 1, 1) := by decide +kernel
theorem dX2_flows_16 : decode cX2_flows 16 = .ok (.iload_n 2, 1) := by decide +kernel
theorem dX2_flows_17 : decode cX2_flows 17 = .ok (.iconst 0, 1) := by decide +kernel
theorem dX2_flows_18 : decode cX2_flows 18 = .ok (.iconst 0, 1) := by decide +kernel
theorem dX2_flows_19 : decode cX2_flows 19 = .ok (.invokevirtual 29, 3) := by decide +kernel
theorem dX2_flows_22 : decode cX2_flows 22 = .ok (.aload_n 1, 1) := by decide +kernel
theorem dX2_flows_23 : decode cX2_flows 23 = .ok (.getfield 51, 3) := by decide +kernel
theorem dX2_flows_26 : decode cX2_flows 26 = .ok (.iload_n 2, 1) := by decide +kernel
theorem dX2_flows_27 : decode cX2_flows 27 = .ok (.iaload, 1) := by decide +kernel
theorem dX2_flows_28 : decode cX2_flows 28 = .ok (.invokestatic 33, 3) := by decide +kernel
theorem dX2_flows_31 : decode cX2_flows 31 = .ok (.ireturn, 1) := by decide +kernel
theorem dX2_flows_32 : decode cX2_flows 32 = .ok (.iconst 0, 1) := by decide +kernel
theorem dX2_flows_33 : decode cX2_flows 33 = .ok (.aload_n 1, 1) := by decide +kernel
theorem dX2_flows_34 : decode cX2_flows 34 = .ok (.getfield 51, 3) := by decide +kernel
theorem dX2_flows_37 : decode cX2_flows 37 = .ok (.iload_n 2, 1) := by decide +kernel
theorem dX2_flows_38 : decode cX2_flows 38 = .ok (.iaload, 1) := by decide +kernel
theorem dX2_flows_39 : decode cX2_flows 39 = .ok (.bipush 10, 2) := by decide +kernel
theorem dX2_flows_41 : decode cX2_flows 41 = .ok (.aload_n 1, 1) := by decide +kernel
theorem dX2_flows_42 : decode cX2_flows 42 = .ok (.getfield 37, 3) := by decide +kernel
theorem dX2_flows_45 : decode cX2_flows 45 = .ok (.iload_n 2, 1) := by decide +kernel
theorem dX2_flows_46 : decode cX2_flows 46 = .ok (.iaload, 1) := by decide +kernel
theorem dX2_flows_47 : decode cX2_flows 47 = .ok (.imul, 1) := by decide +kernel
theorem dX2_flows_48 : decode cX2_flows 48 = .ok (.isub, 1) := by decide +kernel
theorem dX2_flows_49 : decode cX2_flows 49 = .ok (.invokestatic 42, 3) := by decide +kernel
theorem dX2_flows_52 : decode cX2_flows 52 = .ok (.ireturn, 1) := by decide +kernel
theorem dX2_falls_0 : decode cX2_falls 0 = .ok (.aload_n 0, 1) := by decide +kernel
theorem dX2_falls_1 : decode cX2_falls 1 = .ok (.sipush 132, 3) := by decide +kernel
theorem dX2_falls_4 : decode cX2_falls 4 = .ok (.invokevirtual 25, 3) := by decide +kernel
theorem dX2_falls_7 : decode cX2_falls 7 = .ok (.ifCond .eq 23, 3) := by decide +kernel
theorem dX2_falls_10 : decode cX2_falls 10 = .ok (.aload_n 0, 1) := by decide +kernel
theorem dX2_falls_11 : decode cX2_falls 11 = .ok (.sipush 132, 3) := by decide +kernel
theorem dX2_falls_14 : decode cX2_falls 14 = .ok (.aload_n 1, 1) := by decide +kernel
theorem dX2_falls_15 : decode cX2_falls 15 = .ok (.iload_n 2, 1) := by decide +kernel
theorem dX2_falls_16 : decode cX2_falls 16 = .ok (.iload_n 3, 1) := by decide +kernel
theorem dX2_falls_17 : decode cX2_falls 17 = .ok (.iconst 0, 1) := by decide +kernel
theorem dX2_falls_18 : decode cX2_falls 18 = .ok (.invokevirtual 29, 3) := by decide +kernel
theorem dX2_falls_21 : decode cX2_falls 21 = .ok (.ifCond .eq 7, 3) := by decide +kernel
theorem dX2_falls_24 : decode cX2_falls 24 = .ok (.iconst 1, 1) := by decide +kernel
theorem dX2_falls_25 : decode cX2_falls 25 = .ok (.goto 4, 3) := by decide +kernel
theorem dX2_falls_28 : decode cX2_falls 28 = .ok (.iconst 0, 1) := by decide +kernel
theorem dX2_falls_29 : decode cX2_falls 29 = .ok (.ireturn, 1) := by decide +kernel
theorem dX2_falls_30 : decode cX2_falls 30 = .ok (.aload_n 1, 1) := by decide +kernel
theorem dX2_falls_31 : decode cX2_falls 31 = .ok (.getfield 51, 3) := by decide +kernel
theorem dX2_falls_34 : decode cX2_falls 34 = .ok (.iload_n 2, 1) := by decide +kernel
theorem dX2_falls_35 : decode cX2_falls 35 = .ok (.iaload, 1) := by decide +kernel
theorem dX2_falls_36 : decode cX2_falls 36 = .ok (.bipush 10, 2) := by decide +kernel
theorem dX2_falls_38 : decode cX2_falls 38 = .ok (.aload_n 1, 1) := by decide +kernel
theorem dX2_falls_39 : decode cX2_falls 39 = .ok (.getfield 37, 3) := by decide +kernel
theorem dX2_falls_42 : decode cX2_falls 42 = .ok (.iload_n 2, 1) := by decide +kernel
theorem dX2_falls_43 : decode cX2_falls 43 = .ok (.iaload, 1) := by decide +kernel
theorem dX2_falls_44 : decode cX2_falls 44 = .ok (.imul, 1) := by decide +kernel
theorem dX2_falls_45 : decode cX2_falls 45 = .ok (.if_icmp .le 7, 3) := by decide +kernel
theorem dX2_falls_48 : decode cX2_falls 48 = .ok (.iconst 1, 1) := by decide +kernel
theorem dX2_falls_49 : decode cX2_falls 49 = .ok (.goto 4, 3) := by decide +kernel
theorem dX2_falls_52 : decode cX2_falls 52 = .ok (.iconst 0, 1) := by decide +kernel
theorem dX2_falls_53 : decode cX2_falls 53 = .ok (.ireturn, 1) := by decide +kernel
theorem dX2_hasLaw_0 : decode cX2_hasLaw 0 = .ok (.aload_n 0, 1) := by decide +kernel
theorem dX2_hasLaw_1 : decode cX2_hasLaw 1 = .ok (.getfield 18, 3) := by decide +kernel
theorem dX2_hasLaw_4 : decode cX2_hasLaw 4 = .ok (.iload_n 1, 1) := by decide +kernel
theorem dX2_hasLaw_5 : decode cX2_hasLaw 5 = .ok (.sipush 128, 3) := by decide +kernel
theorem dX2_hasLaw_8 : decode cX2_hasLaw 8 = .ok (.isub, 1) := by decide +kernel
theorem dX2_hasLaw_9 : decode cX2_hasLaw 9 = .ok (.invokevirtual 54, 3) := by decide +kernel
theorem dX2_hasLaw_12 : decode cX2_hasLaw 12 = .ok (.ireturn, 1) := by decide +kernel
theorem dX2_within_0 : decode cX2_within 0 = .ok (.iload_n 0, 1) := by decide +kernel
theorem dX2_within_1 : decode cX2_within 1 = .ok (.iload_n 1, 1) := by decide +kernel
theorem dX2_within_2 : decode cX2_within 2 = .ok (.iload_n 2, 1) := by decide +kernel
theorem dX2_within_3 : decode cX2_within 3 = .ok (.invokestatic 55, 3) := by decide +kernel
theorem dX2_within_6 : decode cX2_within 6 = .ok (.invokestatic 42, 3) := by decide +kernel
theorem dX2_within_9 : decode cX2_within 9 = .ok (.ireturn, 1) := by decide +kernel
theorem dX2_valueOf_0 : decode cX2_valueOf 0 = .ok (.iconst 0, 1) := by decide +kernel
theorem dX2_valueOf_1 : decode cX2_valueOf 1 = .ok (.istore 6, 2) := by decide +kernel
theorem dX2_valueOf_3 : decode cX2_valueOf 3 = .ok (.aload_n 0, 1) := by decide +kernel
theorem dX2_valueOf_4 : decode cX2_valueOf 4 = .ok (.getfield 18, 3) := by decide +kernel
theorem dX2_valueOf_7 : decode cX2_valueOf 7 = .ok (.getfield 58, 3) := by decide +kernel
theorem dX2_valueOf_10 : decode cX2_valueOf 10 = .ok (.iload_n 1, 1) := by decide +kernel
theorem dX2_valueOf_11 : decode cX2_valueOf 11 = .ok (.sipush 128, 3) := by decide +kernel
theorem dX2_valueOf_14 : decode cX2_valueOf 14 = .ok (.isub, 1) := by decide +kernel
theorem dX2_valueOf_15 : decode cX2_valueOf 15 = .ok (.iaload, 1) := by decide +kernel
theorem dX2_valueOf_16 : decode cX2_valueOf 16 = .ok (.istore 7, 2) := by decide +kernel
theorem dX2_valueOf_18 : decode cX2_valueOf 18 = .ok (.iload 7, 2) := by decide +kernel
theorem dX2_valueOf_20 : decode cX2_valueOf 20 = .ok (.aload_n 0, 1) := by decide +kernel
theorem dX2_valueOf_21 : decode cX2_valueOf 21 = .ok (.getfield 18, 3) := by decide +kernel
theorem dX2_valueOf_24 : decode cX2_valueOf 24 = .ok (.getfield 61, 3) := by decide +kernel
theorem dX2_valueOf_27 : decode cX2_valueOf 27 = .ok (.iload_n 1, 1) := by decide +kernel
theorem dX2_valueOf_28 : decode cX2_valueOf 28 = .ok (.sipush 128, 3) := by decide +kernel
theorem dX2_valueOf_31 : decode cX2_valueOf 31 = .ok (.isub, 1) := by decide +kernel
theorem dX2_valueOf_32 : decode cX2_valueOf 32 = .ok (.iaload, 1) := by decide +kernel
theorem dX2_valueOf_33 : decode cX2_valueOf 33 = .ok (.if_icmp .ge 181, 3) := by decide +kernel
theorem dX2_valueOf_36 : decode cX2_valueOf 36 = .ok (.aload_n 0, 1) := by decide +kernel
theorem dX2_valueOf_37 : decode cX2_valueOf 37 = .ok (.getfield 18, 3) := by decide +kernel
theorem dX2_valueOf_40 : decode cX2_valueOf 40 = .ok (.getfield 64, 3) := by decide +kernel
theorem dX2_valueOf_43 : decode cX2_valueOf 43 = .ok (.iload 7, 2) := by decide +kernel
theorem dX2_valueOf_45 : decode cX2_valueOf 45 = .ok (.iaload, 1) := by decide +kernel
theorem dX2_valueOf_46 : decode cX2_valueOf 46 = .ok (.istore 8, 2) := by decide +kernel
theorem dX2_valueOf_48 : decode cX2_valueOf 48 = .ok (.iload 8, 2) := by decide +kernel
theorem dX2_valueOf_50 : decode cX2_valueOf 50 = .ok (.bipush 6, 2) := by decide +kernel
theorem dX2_valueOf_52 : decode cX2_valueOf 52 = .ok (.if_icmp .eq 11, 3) := by decide +kernel
theorem dX2_valueOf_55 : decode cX2_valueOf 55 = .ok (.iload 8, 2) := by decide +kernel
theorem dX2_valueOf_57 : decode cX2_valueOf 57 = .ok (.sipush 154, 3) := by decide +kernel
theorem dX2_valueOf_60 : decode cX2_valueOf 60 = .ok (.if_icmp .ne 52, 3) := by decide +kernel
theorem dX2_valueOf_63 : decode cX2_valueOf 63 = .ok (.iload 6, 2) := by decide +kernel
theorem dX2_valueOf_65 : decode cX2_valueOf 65 = .ok (.iconst 1, 1) := by decide +kernel
theorem dX2_valueOf_66 : decode cX2_valueOf 66 = .ok (.if_icmp .lt 142, 3) := by decide +kernel
theorem dX2_valueOf_69 : decode cX2_valueOf 69 = .ok (.aload_n 0, 1) := by decide +kernel
theorem dX2_valueOf_70 : decode cX2_valueOf 70 = .ok (.getfield 21, 3) := by decide +kernel
theorem dX2_valueOf_73 : decode cX2_valueOf 73 = .ok (.iload 6, 2) := by decide +kernel
theorem dX2_valueOf_75 : decode cX2_valueOf 75 = .ok (.iconst 1, 1) := by decide +kernel
theorem dX2_valueOf_76 : decode cX2_valueOf 76 = .ok (.isub, 1) := by decide +kernel
theorem dX2_valueOf_77 : decode cX2_valueOf 77 = .ok (.iload 8, 2) := by decide +kernel
theorem dX2_valueOf_79 : decode cX2_valueOf 79 = .ok (.bipush 6, 2) := by decide +kernel
theorem dX2_valueOf_81 : decode cX2_valueOf 81 = .ok (.if_icmp .ne 16, 3) := by decide +kernel
theorem dX2_valueOf_84 : decode cX2_valueOf 84 = .ok (.aload_n 0, 1) := by decide +kernel
theorem dX2_valueOf_85 : decode cX2_valueOf 85 = .ok (.getfield 21, 3) := by decide +kernel
theorem dX2_valueOf_88 : decode cX2_valueOf 88 = .ok (.iload 6, 2) := by decide +kernel
theorem dX2_valueOf_90 : decode cX2_valueOf 90 = .ok (.iconst 1, 1) := by decide +kernel
theorem dX2_valueOf_91 : decode cX2_valueOf 91 = .ok (.isub, 1) := by decide +kernel
theorem dX2_valueOf_92 : decode cX2_valueOf 92 = .ok (.iaload, 1) := by decide +kernel
theorem dX2_valueOf_93 : decode cX2_valueOf 93 = .ok (.ineg, 1) := by decide +kernel
theorem dX2_valueOf_94 : decode cX2_valueOf 94 = .ok (.goto 14, 3) := by decide +kernel
theorem dX2_valueOf_97 : decode cX2_valueOf 97 = .ok (.iconst 1, 1) := by decide +kernel
theorem dX2_valueOf_98 : decode cX2_valueOf 98 = .ok (.aload_n 0, 1) := by decide +kernel
theorem dX2_valueOf_99 : decode cX2_valueOf 99 = .ok (.getfield 21, 3) := by decide +kernel
theorem dX2_valueOf_102 : decode cX2_valueOf 102 = .ok (.iload 6, 2) := by decide +kernel
theorem dX2_valueOf_104 : decode cX2_valueOf 104 = .ok (.iconst 1, 1) := by decide +kernel
theorem dX2_valueOf_105 : decode cX2_valueOf 105 = .ok (.isub, 1) := by decide +kernel
theorem dX2_valueOf_106 : decode cX2_valueOf 106 = .ok (.iaload, 1) := by decide +kernel
theorem dX2_valueOf_107 : decode cX2_valueOf 107 = .ok (.isub, 1) := by decide +kernel
theorem dX2_valueOf_108 : decode cX2_valueOf 108 = .ok (.iastore, 1) := by decide +kernel
theorem dX2_valueOf_109 : decode cX2_valueOf 109 = .ok (.goto 99, 3) := by decide +kernel
theorem dX2_valueOf_112 : decode cX2_valueOf 112 = .ok (.iload 8, 2) := by decide +kernel
theorem dX2_valueOf_114 : decode cX2_valueOf 114 = .ok (.iconst 3, 1) := by decide +kernel
theorem dX2_valueOf_115 : decode cX2_valueOf 115 = .ok (.if_icmp .eq 17, 3) := by decide +kernel
theorem dX2_valueOf_118 : decode cX2_valueOf 118 = .ok (.sipush 133, 3) := by decide +kernel
theorem dX2_valueOf_121 : decode cX2_valueOf 121 = .ok (.iload 8, 2) := by decide +kernel
theorem dX2_valueOf_123 : decode cX2_valueOf 123 = .ok (.sipush 151, 3) := by decide +kernel
theorem dX2_valueOf_126 : decode cX2_valueOf 126 = .ok (.invokestatic 67, 3) := by decide +kernel
theorem dX2_valueOf_129 : decode cX2_valueOf 129 = .ok (.ifCond .eq 35, 3) := by decide +kernel
theorem dX2_valueOf_132 : decode cX2_valueOf 132 = .ok (.iload 6, 2) := by decide +kernel
theorem dX2_valueOf_134 : decode cX2_valueOf 134 = .ok (.bipush 64, 2) := by decide +kernel
theorem dX2_valueOf_136 : decode cX2_valueOf 136 = .ok (.if_icmp .ge 72, 3) := by decide +kernel
theorem dX2_valueOf_139 : decode cX2_valueOf 139 = .ok (.aload_n 0, 1) := by decide +kernel
theorem dX2_valueOf_140 : decode cX2_valueOf 140 = .ok (.getfield 21, 3) := by decide +kernel
theorem dX2_valueOf_143 : decode cX2_valueOf 143 = .ok (.iload 6, 2) := by decide +kernel
theorem dX2_valueOf_145 : decode cX2_valueOf 145 = .ok (.aload_n 0, 1) := by decide +kernel
theorem dX2_valueOf_146 : decode cX2_valueOf 146 = .ok (.iload 7, 2) := by decide +kernel
theorem dX2_valueOf_148 : decode cX2_valueOf 148 = .ok (.aload_n 2, 1) := by decide +kernel
theorem dX2_valueOf_149 : decode cX2_valueOf 149 = .ok (.iload_n 3, 1) := by decide +kernel
theorem dX2_valueOf_150 : decode cX2_valueOf 150 = .ok (.iload 4, 2) := by decide +kernel
theorem dX2_valueOf_152 : decode cX2_valueOf 152 = .ok (.iload 5, 2) := by decide +kernel
theorem dX2_valueOf_154 : decode cX2_valueOf 154 = .ok (.invokevirtual 71, 3) := by decide +kernel
theorem dX2_valueOf_157 : decode cX2_valueOf 157 = .ok (.iastore, 1) := by decide +kernel
theorem dX2_valueOf_158 : decode cX2_valueOf 158 = .ok (.iinc 6 1, 3) := by decide +kernel
theorem dX2_valueOf_161 : decode cX2_valueOf 161 = .ok (.goto 47, 3) := by decide +kernel
theorem dX2_valueOf_164 : decode cX2_valueOf 164 = .ok (.iload 6, 2) := by decide +kernel
theorem dX2_valueOf_166 : decode cX2_valueOf 166 = .ok (.iconst 2, 1) := by decide +kernel
theorem dX2_valueOf_167 : decode cX2_valueOf 167 = .ok (.if_icmp .lt 41, 3) := by decide +kernel
theorem dX2_valueOf_170 : decode cX2_valueOf 170 = .ok (.iinc 6 (-1), 3) := by decide +kernel
theorem dX2_valueOf_173 : decode cX2_valueOf 173 = .ok (.aload_n 0, 1) := by decide +kernel
theorem dX2_valueOf_174 : decode cX2_valueOf 174 = .ok (.getfield 21, 3) := by decide +kernel
theorem dX2_valueOf_177 : decode cX2_valueOf 177 = .ok (.iload 6, 2) := by decide +kernel
theorem dX2_valueOf_179 : decode cX2_valueOf 179 = .ok (.iconst 1, 1) := by decide +kernel
theorem dX2_valueOf_180 : decode cX2_valueOf 180 = .ok (.isub, 1) := by decide +kernel
theorem dX2_valueOf_181 : decode cX2_valueOf 181 = .ok (.iload 8, 2) := by decide +kernel
theorem dX2_valueOf_183 : decode cX2_valueOf 183 = .ok (.aload_n 0, 1) := by decide +kernel
theorem dX2_valueOf_184 : decode cX2_valueOf 184 = .ok (.getfield 21, 3) := by decide +kernel
theorem dX2_valueOf_187 : decode cX2_valueOf 187 = .ok (.iload 6, 2) := by decide +kernel
theorem dX2_valueOf_189 : decode cX2_valueOf 189 = .ok (.iconst 1, 1) := by decide +kernel
theorem dX2_valueOf_190 : decode cX2_valueOf 190 = .ok (.isub, 1) := by decide +kernel
theorem dX2_valueOf_191 : decode cX2_valueOf 191 = .ok (.iaload, 1) := by decide +kernel
theorem dX2_valueOf_192 : decode cX2_valueOf 192 = .ok (.i2l, 1) := by decide +kernel
theorem dX2_valueOf_193 : decode cX2_valueOf 193 = .ok (.aload_n 0, 1) := by decide +kernel
theorem dX2_valueOf_194 : decode cX2_valueOf 194 = .ok (.getfield 21, 3) := by decide +kernel
theorem dX2_valueOf_197 : decode cX2_valueOf 197 = .ok (.iload 6, 2) := by decide +kernel
theorem dX2_valueOf_199 : decode cX2_valueOf 199 = .ok (.iaload, 1) := by decide +kernel
theorem dX2_valueOf_200 : decode cX2_valueOf 200 = .ok (.i2l, 1) := by decide +kernel
theorem dX2_valueOf_201 : decode cX2_valueOf 201 = .ok (.invokestatic 74, 3) := by decide +kernel
theorem dX2_valueOf_204 : decode cX2_valueOf 204 = .ok (.invokestatic 78, 3) := by decide +kernel
theorem dX2_valueOf_207 : decode cX2_valueOf 207 = .ok (.iastore, 1) := by decide +kernel
theorem dX2_valueOf_208 : decode cX2_valueOf 208 = .ok (.iinc 7 1, 3) := by decide +kernel
theorem dX2_valueOf_211 : decode cX2_valueOf 211 = .ok (.goto (-193), 3) := by decide +kernel
theorem dX2_valueOf_214 : decode cX2_valueOf 214 = .ok (.iload 6, 2) := by decide +kernel
theorem dX2_valueOf_216 : decode cX2_valueOf 216 = .ok (.iconst 1, 1) := by decide +kernel
theorem dX2_valueOf_217 : decode cX2_valueOf 217 = .ok (.if_icmp .lt 12, 3) := by decide +kernel
theorem dX2_valueOf_220 : decode cX2_valueOf 220 = .ok (.aload_n 0, 1) := by decide +kernel
theorem dX2_valueOf_221 : decode cX2_valueOf 221 = .ok (.getfield 21, 3) := by decide +kernel
theorem dX2_valueOf_224 : decode cX2_valueOf 224 = .ok (.iconst 0, 1) := by decide +kernel
theorem dX2_valueOf_225 : decode cX2_valueOf 225 = .ok (.iaload, 1) := by decide +kernel
theorem dX2_valueOf_226 : decode cX2_valueOf 226 = .ok (.goto 4, 3) := by decide +kernel
theorem dX2_valueOf_229 : decode cX2_valueOf 229 = .ok (.iconst 0, 1) := by decide +kernel
theorem dX2_valueOf_230 : decode cX2_valueOf 230 = .ok (.ireturn, 1) := by decide +kernel
theorem dX2_named_0 : decode cX2_named 0 = .ok (.aload_n 0, 1) := by decide +kernel
theorem dX2_named_1 : decode cX2_named 1 = .ok (.getfield 18, 3) := by decide +kernel
theorem dX2_named_4 : decode cX2_named 4 = .ok (.getfield 64, 3) := by decide +kernel
theorem dX2_named_7 : decode cX2_named 7 = .ok (.iload_n 1, 1) := by decide +kernel
theorem dX2_named_8 : decode cX2_named 8 = .ok (.iaload, 1) := by decide +kernel
theorem dX2_named_9 : decode cX2_named 9 = .ok (.istore 6, 2) := by decide +kernel
theorem dX2_named_11 : decode cX2_named 11 = .ok (.iload_n 3, 1) := by decide +kernel
theorem dX2_named_12 : decode cX2_named 12 = .ok (.istore 7, 2) := by decide +kernel
theorem dX2_named_14 : decode cX2_named 14 = .ok (.iload 6, 2) := by decide +kernel
theorem dX2_named_16 : decode cX2_named 16 = .ok (.sipush 150, 3) := by decide +kernel
theorem dX2_named_19 : decode cX2_named 19 = .ok (.if_icmp .eq 11, 3) := by decide +kernel
theorem dX2_named_22 : decode cX2_named 22 = .ok (.iload 6, 2) := by decide +kernel
theorem dX2_named_24 : decode cX2_named 24 = .ok (.sipush 151, 3) := by decide +kernel
theorem dX2_named_27 : decode cX2_named 27 = .ok (.if_icmp .ne 33, 3) := by decide +kernel
theorem dX2_named_30 : decode cX2_named 30 = .ok (.iload 6, 2) := by decide +kernel
theorem dX2_named_32 : decode cX2_named 32 = .ok (.sipush 150, 3) := by decide +kernel
theorem dX2_named_35 : decode cX2_named 35 = .ok (.if_icmp .ne 9, 3) := by decide +kernel
theorem dX2_named_38 : decode cX2_named 38 = .ok (.iload_n 3, 1) := by decide +kernel
theorem dX2_named_39 : decode cX2_named 39 = .ok (.iconst 1, 1) := by decide +kernel
theorem dX2_named_40 : decode cX2_named 40 = .ok (.isub, 1) := by decide +kernel
theorem dX2_named_41 : decode cX2_named 41 = .ok (.goto 6, 3) := by decide +kernel
theorem dX2_named_44 : decode cX2_named 44 = .ok (.iload_n 3, 1) := by decide +kernel
theorem dX2_named_45 : decode cX2_named 45 = .ok (.iconst 1, 1) := by decide +kernel
theorem dX2_named_46 : decode cX2_named 46 = .ok (.iadd, 1) := by decide +kernel
theorem dX2_named_47 : decode cX2_named 47 = .ok (.istore 7, 2) := by decide +kernel
theorem dX2_named_49 : decode cX2_named 49 = .ok (.aload_n 0, 1) := by decide +kernel
theorem dX2_named_50 : decode cX2_named 50 = .ok (.getfield 18, 3) := by decide +kernel
theorem dX2_named_53 : decode cX2_named 53 = .ok (.getfield 82, 3) := by decide +kernel
theorem dX2_named_56 : decode cX2_named 56 = .ok (.iload_n 1, 1) := by decide +kernel
theorem dX2_named_57 : decode cX2_named 57 = .ok (.iaload, 1) := by decide +kernel
theorem dX2_named_58 : decode cX2_named 58 = .ok (.istore 6, 2) := by decide +kernel
theorem dX2_named_60 : decode cX2_named 60 = .ok (.iload 7, 2) := by decide +kernel
theorem dX2_named_62 : decode cX2_named 62 = .ok (.ifCond .lt 12, 3) := by decide +kernel
theorem dX2_named_65 : decode cX2_named 65 = .ok (.iload 7, 2) := by decide +kernel
theorem dX2_named_67 : decode cX2_named 67 = .ok (.aload_n 2, 1) := by decide +kernel
theorem dX2_named_68 : decode cX2_named 68 = .ok (.getfield 85, 3) := by decide +kernel
theorem dX2_named_71 : decode cX2_named 71 = .ok (.if_icmp .lt 5, 3) := by decide +kernel
theorem dX2_named_74 : decode cX2_named 74 = .ok (.iconst 0, 1) := by decide +kernel
theorem dX2_named_75 : decode cX2_named 75 = .ok (.ireturn, 1) := by decide +kernel
theorem dX2_named_76 : decode cX2_named 76 = .ok (.iload 6, 2) := by decide +kernel
theorem dX2_named_78 : decode cX2_named 78 = .ok (.lookupswitch 153 #[(3, 90), (133, 105), (135, 100), (140, 115), (141, 123), (142, 131), (146, 107), (147, 139), (148, 147), (149, 150)], 90) := by decide +kernel
theorem dX2_named_168 : decode cX2_named 168 = .ok (.aload_n 0, 1) := by decide +kernel
theorem dX2_named_169 : decode cX2_named 169 = .ok (.getfield 18, 3) := by decide +kernel
theorem dX2_named_172 : decode cX2_named 172 = .ok (.getfield 82, 3) := by decide +kernel
theorem dX2_named_175 : decode cX2_named 175 = .ok (.iload_n 1, 1) := by decide +kernel
theorem dX2_named_176 : decode cX2_named 176 = .ok (.iaload, 1) := by decide +kernel
theorem dX2_named_177 : decode cX2_named 177 = .ok (.ireturn, 1) := by decide +kernel
theorem dX2_named_178 : decode cX2_named 178 = .ok (.aload_n 2, 1) := by decide +kernel
theorem dX2_named_179 : decode cX2_named 179 = .ok (.getfield 89, 3) := by decide +kernel
theorem dX2_named_182 : decode cX2_named 182 = .ok (.ireturn, 1) := by decide +kernel
theorem dX2_named_183 : decode cX2_named 183 = .ok (.iload_n 3, 1) := by decide +kernel
theorem dX2_named_184 : decode cX2_named 184 = .ok (.ireturn, 1) := by decide +kernel
theorem dX2_named_185 : decode cX2_named 185 = .ok (.aload_n 2, 1) := by decide +kernel
theorem dX2_named_186 : decode cX2_named 186 = .ok (.getfield 48, 3) := by decide +kernel
theorem dX2_named_189 : decode cX2_named 189 = .ok (.iload 7, 2) := by decide +kernel
theorem dX2_named_191 : decode cX2_named 191 = .ok (.iaload, 1) := by decide +kernel
theorem dX2_named_192 : decode cX2_named 192 = .ok (.ireturn, 1) := by decide +kernel
theorem dX2_named_193 : decode cX2_named 193 = .ok (.aload_n 2, 1) := by decide +kernel
theorem dX2_named_194 : decode cX2_named 194 = .ok (.getfield 37, 3) := by decide +kernel
theorem dX2_named_197 : decode cX2_named 197 = .ok (.iload 7, 2) := by decide +kernel
theorem dX2_named_199 : decode cX2_named 199 = .ok (.iaload, 1) := by decide +kernel
theorem dX2_named_200 : decode cX2_named 200 = .ok (.ireturn, 1) := by decide +kernel
theorem dX2_named_201 : decode cX2_named 201 = .ok (.aload_n 2, 1) := by decide +kernel
theorem dX2_named_202 : decode cX2_named 202 = .ok (.getfield 51, 3) := by decide +kernel
theorem dX2_named_205 : decode cX2_named 205 = .ok (.iload 7, 2) := by decide +kernel
theorem dX2_named_207 : decode cX2_named 207 = .ok (.iaload, 1) := by decide +kernel
theorem dX2_named_208 : decode cX2_named 208 = .ok (.ireturn, 1) := by decide +kernel
theorem dX2_named_209 : decode cX2_named 209 = .ok (.aload_n 2, 1) := by decide +kernel
theorem dX2_named_210 : decode cX2_named 210 = .ok (.getfield 92, 3) := by decide +kernel
theorem dX2_named_213 : decode cX2_named 213 = .ok (.iload 7, 2) := by decide +kernel
theorem dX2_named_215 : decode cX2_named 215 = .ok (.iaload, 1) := by decide +kernel
theorem dX2_named_216 : decode cX2_named 216 = .ok (.ireturn, 1) := by decide +kernel
theorem dX2_named_217 : decode cX2_named 217 = .ok (.aload_n 2, 1) := by decide +kernel
theorem dX2_named_218 : decode cX2_named 218 = .ok (.getfield 95, 3) := by decide +kernel
theorem dX2_named_221 : decode cX2_named 221 = .ok (.iload 7, 2) := by decide +kernel
theorem dX2_named_223 : decode cX2_named 223 = .ok (.iaload, 1) := by decide +kernel
theorem dX2_named_224 : decode cX2_named 224 = .ok (.ireturn, 1) := by decide +kernel
theorem dX2_named_225 : decode cX2_named 225 = .ok (.iload 4, 2) := by decide +kernel
theorem dX2_named_227 : decode cX2_named 227 = .ok (.ireturn, 1) := by decide +kernel
theorem dX2_named_228 : decode cX2_named 228 = .ok (.iload 5, 2) := by decide +kernel
theorem dX2_named_230 : decode cX2_named 230 = .ok (.ireturn, 1) := by decide +kernel
theorem dX2_named_231 : decode cX2_named 231 = .ok (.iconst 0, 1) := by decide +kernel
theorem dX2_named_232 : decode cX2_named 232 = .ok (.ireturn, 1) := by decide +kernel
theorem dX2_cut_0 : decode cX2_cut 0 = .ok (.lload_n 0, 1) := by decide +kernel
theorem dX2_cut_1 : decode cX2_cut 1 = .ok (.ldc2_w 98, 3) := by decide +kernel
theorem dX2_cut_4 : decode cX2_cut 4 = .ok (.lcmp, 1) := by decide +kernel
theorem dX2_cut_5 : decode cX2_cut 5 = .ok (.ifCond .le 8, 3) := by decide +kernel
theorem dX2_cut_8 : decode cX2_cut 8 = .ok (.ldc 100, 2) := by decide +kernel
theorem dX2_cut_10 : decode cX2_cut 10 = .ok (.goto 18, 3) := by decide +kernel
theorem dX2_cut_13 : decode cX2_cut 13 = .ok (.lload_n 0, 1) := by decide +kernel
theorem dX2_cut_14 : decode cX2_cut 14 = .ok (.ldc2_w 101, 3) := by decide +kernel
theorem dX2_cut_17 : decode cX2_cut 17 = .ok (.lcmp, 1) := by decide +kernel
theorem dX2_cut_18 : decode cX2_cut 18 = .ok (.ifCond .ge 8, 3) := by decide +kernel
theorem dX2_cut_21 : decode cX2_cut 21 = .ok (.ldc 103, 2) := by decide +kernel
theorem dX2_cut_23 : decode cX2_cut 23 = .ok (.goto 5, 3) := by decide +kernel
theorem dX2_cut_26 : decode cX2_cut 26 = .ok (.lload_n 0, 1) := by decide +kernel
theorem dX2_cut_27 : decode cX2_cut 27 = .ok (.l2i, 1) := by decide +kernel
theorem dX2_cut_28 : decode cX2_cut 28 = .ok (.ireturn, 1) := by decide +kernel
theorem dX2_joined_0 : decode cX2_joined 0 = .ok (.iload_n 0, 1) := by decide +kernel
theorem dX2_joined_1 : decode cX2_joined 1 = .ok (.lookupswitch 213 #[(1, 181), (2, 193), (35, 169), (42, 115), (43, 107), (45, 111), (47, 119), (60, 133), (61, 157), (62, 145), (152, 209), (153, 205)], 107) := by decide +kernel
theorem dX2_joined_108 : decode cX2_joined 108 = .ok (.lload_n 1, 1) := by decide +kernel
theorem dX2_joined_109 : decode cX2_joined 109 = .ok (.lload_n 3, 1) := by decide +kernel
theorem dX2_joined_110 : decode cX2_joined 110 = .ok (.ladd, 1) := by decide +kernel
theorem dX2_joined_111 : decode cX2_joined 111 = .ok (.lreturn, 1) := by decide +kernel
theorem dX2_joined_112 : decode cX2_joined 112 = .ok (.lload_n 1, 1) := by decide +kernel
theorem dX2_joined_113 : decode cX2_joined 113 = .ok (.lload_n 3, 1) := by decide +kernel
theorem dX2_joined_114 : decode cX2_joined 114 = .ok (.lsub, 1) := by decide +kernel
theorem dX2_joined_115 : decode cX2_joined 115 = .ok (.lreturn, 1) := by decide +kernel
theorem dX2_joined_116 : decode cX2_joined 116 = .ok (.lload_n 1, 1) := by decide +kernel
theorem dX2_joined_117 : decode cX2_joined 117 = .ok (.lload_n 3, 1) := by decide +kernel
theorem dX2_joined_118 : decode cX2_joined 118 = .ok (.lmul, 1) := by decide +kernel
theorem dX2_joined_119 : decode cX2_joined 119 = .ok (.lreturn, 1) := by decide +kernel
theorem dX2_joined_120 : decode cX2_joined 120 = .ok (.lload_n 3, 1) := by decide +kernel
theorem dX2_joined_121 : decode cX2_joined 121 = .ok (.lconst 0, 1) := by decide +kernel
theorem dX2_joined_122 : decode cX2_joined 122 = .ok (.lcmp, 1) := by decide +kernel
theorem dX2_joined_123 : decode cX2_joined 123 = .ok (.ifCond .ne 7, 3) := by decide +kernel
theorem dX2_joined_126 : decode cX2_joined 126 = .ok (.lconst 0, 1) := by decide +kernel
theorem dX2_joined_127 : decode cX2_joined 127 = .ok (.goto 6, 3) := by decide +kernel
theorem dX2_joined_130 : decode cX2_joined 130 = .ok (.lload_n 1, 1) := by decide +kernel
theorem dX2_joined_131 : decode cX2_joined 131 = .ok (.lload_n 3, 1) := by decide +kernel
theorem dX2_joined_132 : decode cX2_joined 132 = .ok (.ldiv, 1) := by decide +kernel
theorem dX2_joined_133 : decode cX2_joined 133 = .ok (.lreturn, 1) := by decide +kernel
theorem dX2_joined_134 : decode cX2_joined 134 = .ok (.lload_n 1, 1) := by decide +kernel
theorem dX2_joined_135 : decode cX2_joined 135 = .ok (.lload_n 3, 1) := by decide +kernel
theorem dX2_joined_136 : decode cX2_joined 136 = .ok (.lcmp, 1) := by decide +kernel
theorem dX2_joined_137 : decode cX2_joined 137 = .ok (.ifCond .ge 7, 3) := by decide +kernel
theorem dX2_joined_140 : decode cX2_joined 140 = .ok (.lconst 1, 1) := by decide +kernel
theorem dX2_joined_141 : decode cX2_joined 141 = .ok (.goto 4, 3) := by decide +kernel
theorem dX2_joined_144 : decode cX2_joined 144 = .ok (.lconst 0, 1) := by decide +kernel
theorem dX2_joined_145 : decode cX2_joined 145 = .ok (.lreturn, 1) := by decide +kernel
theorem dX2_joined_146 : decode cX2_joined 146 = .ok (.lload_n 1, 1) := by decide +kernel
theorem dX2_joined_147 : decode cX2_joined 147 = .ok (.lload_n 3, 1) := by decide +kernel
theorem dX2_joined_148 : decode cX2_joined 148 = .ok (.lcmp, 1) := by decide +kernel
theorem dX2_joined_149 : decode cX2_joined 149 = .ok (.ifCond .le 7, 3) := by decide +kernel
theorem dX2_joined_152 : decode cX2_joined 152 = .ok (.lconst 1, 1) := by decide +kernel
theorem dX2_joined_153 : decode cX2_joined 153 = .ok (.goto 4, 3) := by decide +kernel
theorem dX2_joined_156 : decode cX2_joined 156 = .ok (.lconst 0, 1) := by decide +kernel
theorem dX2_joined_157 : decode cX2_joined 157 = .ok (.lreturn, 1) := by decide +kernel
theorem dX2_joined_158 : decode cX2_joined 158 = .ok (.lload_n 1, 1) := by decide +kernel
theorem dX2_joined_159 : decode cX2_joined 159 = .ok (.lload_n 3, 1) := by decide +kernel
theorem dX2_joined_160 : decode cX2_joined 160 = .ok (.lcmp, 1) := by decide +kernel
theorem dX2_joined_161 : decode cX2_joined 161 = .ok (.ifCond .ne 7, 3) := by decide +kernel
theorem dX2_joined_164 : decode cX2_joined 164 = .ok (.lconst 1, 1) := by decide +kernel
theorem dX2_joined_165 : decode cX2_joined 165 = .ok (.goto 4, 3) := by decide +kernel
theorem dX2_joined_168 : decode cX2_joined 168 = .ok (.lconst 0, 1) := by decide +kernel
theorem dX2_joined_169 : decode cX2_joined 169 = .ok (.lreturn, 1) := by decide +kernel
theorem dX2_joined_170 : decode cX2_joined 170 = .ok (.lload_n 1, 1) := by decide +kernel
theorem dX2_joined_171 : decode cX2_joined 171 = .ok (.lload_n 3, 1) := by decide +kernel
theorem dX2_joined_172 : decode cX2_joined 172 = .ok (.lcmp, 1) := by decide +kernel
theorem dX2_joined_173 : decode cX2_joined 173 = .ok (.ifCond .eq 7, 3) := by decide +kernel
theorem dX2_joined_176 : decode cX2_joined 176 = .ok (.lconst 1, 1) := by decide +kernel
theorem dX2_joined_177 : decode cX2_joined 177 = .ok (.goto 4, 3) := by decide +kernel
theorem dX2_joined_180 : decode cX2_joined 180 = .ok (.lconst 0, 1) := by decide +kernel
theorem dX2_joined_181 : decode cX2_joined 181 = .ok (.lreturn, 1) := by decide +kernel
theorem dX2_joined_182 : decode cX2_joined 182 = .ok (.lload_n 1, 1) := by decide +kernel
theorem dX2_joined_183 : decode cX2_joined 183 = .ok (.lload_n 3, 1) := by decide +kernel
theorem dX2_joined_184 : decode cX2_joined 184 = .ok (.lcmp, 1) := by decide +kernel
theorem dX2_joined_185 : decode cX2_joined 185 = .ok (.ifCond .gt 7, 3) := by decide +kernel
theorem dX2_joined_188 : decode cX2_joined 188 = .ok (.lconst 1, 1) := by decide +kernel
theorem dX2_joined_189 : decode cX2_joined 189 = .ok (.goto 4, 3) := by decide +kernel
theorem dX2_joined_192 : decode cX2_joined 192 = .ok (.lconst 0, 1) := by decide +kernel
theorem dX2_joined_193 : decode cX2_joined 193 = .ok (.lreturn, 1) := by decide +kernel
theorem dX2_joined_194 : decode cX2_joined 194 = .ok (.lload_n 1, 1) := by decide +kernel
theorem dX2_joined_195 : decode cX2_joined 195 = .ok (.lload_n 3, 1) := by decide +kernel
theorem dX2_joined_196 : decode cX2_joined 196 = .ok (.lcmp, 1) := by decide +kernel
theorem dX2_joined_197 : decode cX2_joined 197 = .ok (.ifCond .lt 7, 3) := by decide +kernel
theorem dX2_joined_200 : decode cX2_joined 200 = .ok (.lconst 1, 1) := by decide +kernel
theorem dX2_joined_201 : decode cX2_joined 201 = .ok (.goto 4, 3) := by decide +kernel
theorem dX2_joined_204 : decode cX2_joined 204 = .ok (.lconst 0, 1) := by decide +kernel
theorem dX2_joined_205 : decode cX2_joined 205 = .ok (.lreturn, 1) := by decide +kernel
theorem dX2_joined_206 : decode cX2_joined 206 = .ok (.lload_n 1, 1) := by decide +kernel
theorem dX2_joined_207 : decode cX2_joined 207 = .ok (.lload_n 3, 1) := by decide +kernel
theorem dX2_joined_208 : decode cX2_joined 208 = .ok (.land, 1) := by decide +kernel
theorem dX2_joined_209 : decode cX2_joined 209 = .ok (.lreturn, 1) := by decide +kernel
theorem dX2_joined_210 : decode cX2_joined 210 = .ok (.lload_n 1, 1) := by decide +kernel
theorem dX2_joined_211 : decode cX2_joined 211 = .ok (.lload_n 3, 1) := by decide +kernel
theorem dX2_joined_212 : decode cX2_joined 212 = .ok (.lor, 1) := by decide +kernel
theorem dX2_joined_213 : decode cX2_joined 213 = .ok (.lreturn, 1) := by decide +kernel
theorem dX2_joined_214 : decode cX2_joined 214 = .ok (.lconst 0, 1) := by decide +kernel
theorem dX2_joined_215 : decode cX2_joined 215 = .ok (.lreturn, 1) := by decide +kernel
theorem dX3_init_0 : decode cX3_init 0 = .ok (.aload_n 0, 1) := by decide +kernel
theorem dX3_init_1 : decode cX3_init 1 = .ok (.invokespecial 3, 3) := by decide +kernel
theorem dX3_init_4 : decode cX3_init 4 = .ok (.aload_n 0, 1) := by decide +kernel
theorem dX3_init_5 : decode cX3_init 5 = .ok (.iconst 4, 1) := by decide +kernel
theorem dX3_init_6 : decode cX3_init 6 = .ok (.newarray .int, 2) := by decide +kernel
theorem dX3_init_8 : decode cX3_init 8 = .ok (.putfield 9, 3) := by decide +kernel
theorem dX3_init_11 : decode cX3_init 11 = .ok (.aload_n 0, 1) := by decide +kernel
theorem dX3_init_12 : decode cX3_init 12 = .ok (.iconst 4, 1) := by decide +kernel
theorem dX3_init_13 : decode cX3_init 13 = .ok (.newarray .int, 2) := by decide +kernel
theorem dX3_init_15 : decode cX3_init 15 = .ok (.putfield 15, 3) := by decide +kernel
theorem dX3_init_18 : decode cX3_init 18 = .ok (.aload_n 0, 1) := by decide +kernel
theorem dX3_init_19 : decode cX3_init 19 = .ok (.iconst 4, 1) := by decide +kernel
theorem dX3_init_20 : decode cX3_init 20 = .ok (.iconst 5, 1) := by decide +kernel
theorem dX3_init_21 : decode cX3_init 21 = .ok (.multianewarray 18 2, 4) := by decide +kernel
theorem dX3_init_25 : decode cX3_init 25 = .ok (.putfield 20, 3) := by decide +kernel
theorem dX3_init_28 : decode cX3_init 28 = .ok (.aload_n 0, 1) := by decide +kernel
theorem dX3_init_29 : decode cX3_init 29 = .ok (.iconst 4, 1) := by decide +kernel
theorem dX3_init_30 : decode cX3_init 30 = .ok (.newarray .int, 2) := by decide +kernel
theorem dX3_init_32 : decode cX3_init 32 = .ok (.putfield 23, 3) := by decide +kernel
theorem dX3_init_35 : decode cX3_init 35 = .ok (.aload_n 0, 1) := by decide +kernel
theorem dX3_init_36 : decode cX3_init 36 = .ok (.aload_n 1, 1) := by decide +kernel
theorem dX3_init_37 : decode cX3_init 37 = .ok (.putfield 26, 3) := by decide +kernel
theorem dX3_init_40 : decode cX3_init 40 = .ok (.return_, 1) := by decide +kernel
theorem dX3_choose_0 : decode cX3_choose 0 = .ok (.aload_n 0, 1) := by decide +kernel
theorem dX3_choose_1 : decode cX3_choose 1 = .ok (.iload_n 3, 1) := by decide +kernel
theorem dX3_choose_2 : decode cX3_choose 2 = .ok (.aload_n 0, 1) := by decide +kernel
theorem dX3_choose_3 : decode cX3_choose 3 = .ok (.getfield 9, 3) := by decide +kernel
theorem dX3_choose_6 : decode cX3_choose 6 = .ok (.invokestatic 30, 3) := by decide +kernel
theorem dX3_choose_9 : decode cX3_choose 9 = .ok (.putfield 34, 3) := by decide +kernel
theorem dX3_choose_12 : decode cX3_choose 12 = .ok (.aload_n 0, 1) := by decide +kernel
theorem dX3_choose_13 : decode cX3_choose 13 = .ok (.iload 4, 2) := by decide +kernel
theorem dX3_choose_15 : decode cX3_choose 15 = .ok (.aload_n 0, 1) := by decide +kernel
theorem dX3_choose_16 : decode cX3_choose 16 = .ok (.getfield 15, 3) := by decide +kernel
theorem dX3_choose_19 : decode cX3_choose 19 = .ok (.invokestatic 30, 3) := by decide +kernel
theorem dX3_choose_22 : decode cX3_choose 22 = .ok (.putfield 38, 3) := by decide +kernel
theorem dX3_choose_25 : decode cX3_choose 25 = .ok (.iconst 1, 1) := by decide +kernel
theorem dX3_choose_26 : decode cX3_choose 26 = .ok (.istore 5, 2) := by decide +kernel
theorem dX3_choose_28 : decode cX3_choose 28 = .ok (.iconst 0, 1) := by decide +kernel
theorem dX3_choose_29 : decode cX3_choose 29 = .ok (.istore 6, 2) := by decide +kernel
theorem dX3_choose_31 : decode cX3_choose 31 = .ok (.iload 6, 2) := by decide +kernel
theorem dX3_choose_33 : decode cX3_choose 33 = .ok (.aload_n 0, 1) := by decide +kernel
theorem dX3_choose_34 : decode cX3_choose 34 = .ok (.getfield 34, 3) := by decide +kernel
theorem dX3_choose_37 : decode cX3_choose 37 = .ok (.if_icmp .ge 98, 3) := by decide +kernel
theorem dX3_choose_40 : decode cX3_choose 40 = .ok (.iload 5, 2) := by decide +kernel
theorem dX3_choose_42 : decode cX3_choose 42 = .ok (.aload_n 0, 1) := by decide +kernel
theorem dX3_choose_43 : decode cX3_choose 43 = .ok (.getfield 38, 3) := by decide +kernel
theorem dX3_choose_46 : decode cX3_choose 46 = .ok (.iconst 1, 1) := by decide +kernel
theorem dX3_choose_47 : decode cX3_choose 47 = .ok (.iadd, 1) := by decide +kernel
theorem dX3_choose_48 : decode cX3_choose 48 = .ok (.imul, 1) := by decide +kernel
theorem dX3_choose_49 : decode cX3_choose 49 = .ok (.istore 5, 2) := by decide +kernel
theorem dX3_choose_51 : decode cX3_choose 51 = .ok (.iconst 0, 1) := by decide +kernel
theorem dX3_choose_52 : decode cX3_choose 52 = .ok (.istore 7, 2) := by decide +kernel
theorem dX3_choose_54 : decode cX3_choose 54 = .ok (.iload 7, 2) := by decide +kernel
theorem dX3_choose_56 : decode cX3_choose 56 = .ok (.aload_n 0, 1) := by decide +kernel
theorem dX3_choose_57 : decode cX3_choose 57 = .ok (.getfield 38, 3) := by decide +kernel
theorem dX3_choose_60 : decode cX3_choose 60 = .ok (.if_icmp .gt 69, 3) := by decide +kernel
theorem dX3_choose_63 : decode cX3_choose 63 = .ok (.iload 7, 2) := by decide +kernel
theorem dX3_choose_65 : decode cX3_choose 65 = .ok (.aload_n 0, 1) := by decide +kernel
theorem dX3_choose_66 : decode cX3_choose 66 = .ok (.getfield 38, 3) := by decide +kernel
theorem dX3_choose_69 : decode cX3_choose 69 = .ok (.if_icmp .ge 18, 3) := by decide +kernel
theorem dX3_choose_72 : decode cX3_choose 72 = .ok (.aload_n 1, 1) := by decide +kernel
theorem dX3_choose_73 : decode cX3_choose 73 = .ok (.getfield 41, 3) := by decide +kernel
theorem dX3_choose_76 : decode cX3_choose 76 = .ok (.aload_n 0, 1) := by decide +kernel
theorem dX3_choose_77 : decode cX3_choose 77 = .ok (.getfield 15, 3) := by decide +kernel
theorem dX3_choose_80 : decode cX3_choose 80 = .ok (.iload 7, 2) := by decide +kernel
theorem dX3_choose_82 : decode cX3_choose 82 = .ok (.iaload, 1) := by decide +kernel
theorem dX3_choose_83 : decode cX3_choose 83 = .ok (.iaload, 1) := by decide +kernel
theorem dX3_choose_84 : decode cX3_choose 84 = .ok (.goto 4, 3) := by decide +kernel
theorem dX3_choose_87 : decode cX3_choose 87 = .ok (.iconst 0, 1) := by decide +kernel
theorem dX3_choose_88 : decode cX3_choose 88 = .ok (.istore 8, 2) := by decide +kernel
theorem dX3_choose_90 : decode cX3_choose 90 = .ok (.aload_n 0, 1) := by decide +kernel
theorem dX3_choose_91 : decode cX3_choose 91 = .ok (.getfield 20, 3) := by decide +kernel
theorem dX3_choose_94 : decode cX3_choose 94 = .ok (.iload 6, 2) := by decide +kernel
theorem dX3_choose_96 : decode cX3_choose 96 = .ok (.aaload, 1) := by decide +kernel
theorem dX3_choose_97 : decode cX3_choose 97 = .ok (.iload 7, 2) := by decide +kernel
theorem dX3_choose_99 : decode cX3_choose 99 = .ok (.aload_n 0, 1) := by decide +kernel
theorem dX3_choose_100 : decode cX3_choose 100 = .ok (.getfield 26, 3) := by decide +kernel
theorem dX3_choose_103 : decode cX3_choose 103 = .ok (.aload_n 1, 1) := by decide +kernel
theorem dX3_choose_104 : decode cX3_choose 104 = .ok (.iload_n 2, 1) := by decide +kernel
theorem dX3_choose_105 : decode cX3_choose 105 = .ok (.aload_n 1, 1) := by decide +kernel
theorem dX3_choose_106 : decode cX3_choose 106 = .ok (.getfield 41, 3) := by decide +kernel
theorem dX3_choose_109 : decode cX3_choose 109 = .ok (.aload_n 0, 1) := by decide +kernel
theorem dX3_choose_110 : decode cX3_choose 110 = .ok (.getfield 9, 3) := by decide +kernel
theorem dX3_choose_113 : decode cX3_choose 113 = .ok (.iload 6, 2) := by decide +kernel
theorem dX3_choose_115 : decode cX3_choose 115 = .ok (.iaload, 1) := by decide +kernel
theorem dX3_choose_116 : decode cX3_choose 116 = .ok (.iaload, 1) := by decide +kernel
theorem dX3_choose_117 : decode cX3_choose 117 = .ok (.iload 8, 2) := by decide +kernel
theorem dX3_choose_119 : decode cX3_choose 119 = .ok (.invokevirtual 46, 3) := by decide +kernel
theorem dX3_choose_122 : decode cX3_choose 122 = .ok (.iastore, 1) := by decide +kernel
theorem dX3_choose_123 : decode cX3_choose 123 = .ok (.iinc 7 1, 3) := by decide +kernel
theorem dX3_choose_126 : decode cX3_choose 126 = .ok (.goto (-72), 3) := by decide +kernel
theorem dX3_choose_129 : decode cX3_choose 129 = .ok (.iinc 6 1, 3) := by decide +kernel
theorem dX3_choose_132 : decode cX3_choose 132 = .ok (.goto (-101), 3) := by decide +kernel
theorem dX3_choose_135 : decode cX3_choose 135 = .ok (.iconst 0, 1) := by decide +kernel
theorem dX3_choose_136 : decode cX3_choose 136 = .ok (.istore 6, 2) := by decide +kernel
theorem dX3_choose_138 : decode cX3_choose 138 = .ok (.aload_n 0, 1) := by decide +kernel
theorem dX3_choose_139 : decode cX3_choose 139 = .ok (.iconst (-1), 1) := by decide +kernel
theorem dX3_choose_140 : decode cX3_choose 140 = .ok (.putfield 52, 3) := by decide +kernel
theorem dX3_choose_143 : decode cX3_choose 143 = .ok (.iconst 0, 1) := by decide +kernel
theorem dX3_choose_144 : decode cX3_choose 144 = .ok (.istore 7, 2) := by decide +kernel
theorem dX3_choose_146 : decode cX3_choose 146 = .ok (.iload 7, 2) := by decide +kernel
theorem dX3_choose_148 : decode cX3_choose 148 = .ok (.iload 5, 2) := by decide +kernel
theorem dX3_choose_150 : decode cX3_choose 150 = .ok (.if_icmp .ge 50, 3) := by decide +kernel
theorem dX3_choose_153 : decode cX3_choose 153 = .ok (.aload_n 0, 1) := by decide +kernel
theorem dX3_choose_154 : decode cX3_choose 154 = .ok (.iload 7, 2) := by decide +kernel
theorem dX3_choose_156 : decode cX3_choose 156 = .ok (.invokevirtual 55, 3) := by decide +kernel
theorem dX3_choose_159 : decode cX3_choose 159 = .ok (.istore 8, 2) := by decide +kernel
theorem dX3_choose_161 : decode cX3_choose 161 = .ok (.iload 8, 2) := by decide +kernel
theorem dX3_choose_163 : decode cX3_choose 163 = .ok (.iconst (-1), 1) := by decide +kernel
theorem dX3_choose_164 : decode cX3_choose 164 = .ok (.if_icmp .eq 30, 3) := by decide +kernel
theorem dX3_choose_167 : decode cX3_choose 167 = .ok (.aload_n 0, 1) := by decide +kernel
theorem dX3_choose_168 : decode cX3_choose 168 = .ok (.getfield 52, 3) := by decide +kernel
theorem dX3_choose_171 : decode cX3_choose 171 = .ok (.iconst (-1), 1) := by decide +kernel
theorem dX3_choose_172 : decode cX3_choose 172 = .ok (.if_icmp .eq 12, 3) := by decide +kernel
theorem dX3_choose_175 : decode cX3_choose 175 = .ok (.iload 8, 2) := by decide +kernel
theorem dX3_choose_177 : decode cX3_choose 177 = .ok (.aload_n 0, 1) := by decide +kernel
theorem dX3_choose_178 : decode cX3_choose 178 = .ok (.getfield 52, 3) := by decide +kernel
theorem dX3_choose_181 : decode cX3_choose 181 = .ok (.if_icmp .ge 13, 3) := by decide +kernel
theorem dX3_choose_184 : decode cX3_choose 184 = .ok (.aload_n 0, 1) := by decide +kernel
theorem dX3_choose_185 : decode cX3_choose 185 = .ok (.iload 8, 2) := by decide +kernel
theorem dX3_choose_187 : decode cX3_choose 187 = .ok (.putfield 52, 3) := by decide +kernel
theorem dX3_choose_190 : decode cX3_choose 190 = .ok (.iload 7, 2) := by decide +kernel
theorem dX3_choose_192 : decode cX3_choose 192 = .ok (.istore 6, 2) := by decide +kernel
theorem dX3_choose_194 : decode cX3_choose 194 = .ok (.iinc 7 1, 3) := by decide +kernel
theorem dX3_choose_197 : decode cX3_choose 197 = .ok (.goto (-51), 3) := by decide +kernel
theorem dX3_choose_200 : decode cX3_choose 200 = .ok (.aload_n 0, 1) := by decide +kernel
theorem dX3_choose_201 : decode cX3_choose 201 = .ok (.getfield 34, 3) := by decide +kernel
theorem dX3_choose_204 : decode cX3_choose 204 = .ok (.iconst 1, 1) := by decide +kernel
theorem dX3_choose_205 : decode cX3_choose 205 = .ok (.isub, 1) := by decide +kernel
theorem dX3_choose_206 : decode cX3_choose 206 = .ok (.istore 7, 2) := by decide +kernel
theorem dX3_choose_208 : decode cX3_choose 208 = .ok (.iload 7, 2) := by decide +kernel
theorem dX3_choose_210 : decode cX3_choose 210 = .ok (.ifCond .lt 36, 3) := by decide +kernel
theorem dX3_choose_213 : decode cX3_choose 213 = .ok (.aload_n 0, 1) := by decide +kernel
theorem dX3_choose_214 : decode cX3_choose 214 = .ok (.getfield 23, 3) := by decide +kernel
theorem dX3_choose_217 : decode cX3_choose 217 = .ok (.iload 7, 2) := by decide +kernel
theorem dX3_choose_219 : decode cX3_choose 219 = .ok (.iload 6, 2) := by decide +kernel
theorem dX3_choose_221 : decode cX3_choose 221 = .ok (.aload_n 0, 1) := by decide +kernel
theorem dX3_choose_222 : decode cX3_choose 222 = .ok (.getfield 38, 3) := by decide +kernel
theorem dX3_choose_225 : decode cX3_choose 225 = .ok (.iconst 1, 1) := by decide +kernel
theorem dX3_choose_226 : decode cX3_choose 226 = .ok (.iadd, 1) := by decide +kernel
theorem dX3_choose_227 : decode cX3_choose 227 = .ok (.irem, 1) := by decide +kernel
theorem dX3_choose_228 : decode cX3_choose 228 = .ok (.iastore, 1) := by decide +kernel
theorem dX3_choose_229 : decode cX3_choose 229 = .ok (.iload 6, 2) := by decide +kernel
theorem dX3_choose_231 : decode cX3_choose 231 = .ok (.aload_n 0, 1) := by decide +kernel
theorem dX3_choose_232 : decode cX3_choose 232 = .ok (.getfield 38, 3) := by decide +kernel
theorem dX3_choose_235 : decode cX3_choose 235 = .ok (.iconst 1, 1) := by decide +kernel
theorem dX3_choose_236 : decode cX3_choose 236 = .ok (.iadd, 1) := by decide +kernel
theorem dX3_choose_237 : decode cX3_choose 237 = .ok (.idiv, 1) := by decide +kernel
theorem dX3_choose_238 : decode cX3_choose 238 = .ok (.istore 6, 2) := by decide +kernel
theorem dX3_choose_240 : decode cX3_choose 240 = .ok (.iinc 7 (-1), 3) := by decide +kernel
theorem dX3_choose_243 : decode cX3_choose 243 = .ok (.goto (-35), 3) := by decide +kernel
theorem dX3_choose_246 : decode cX3_choose 246 = .ok (.return_, 1) := by decide +kernel
theorem dX3_listShips_0 : decode cX3_listShips 0 = .ok (.iconst 0, 1) := by decide +kernel
theorem dX3_listShips_1 : decode cX3_listShips 1 = .ok (.istore_n 2, 1) := by decide +kernel
theorem dX3_listShips_2 : decode cX3_listShips 2 = .ok (.iconst 0, 1) := by decide +kernel
theorem dX3_listShips_3 : decode cX3_listShips 3 = .ok (.istore_n 3, 1) := by decide +kernel
theorem dX3_listShips_4 : decode cX3_listShips 4 = .ok (.iload_n 3, 1) := by decide +kernel
theorem dX3_listShips_5 : decode cX3_listShips 5 = .ok (.bipush 7, 2) := by decide +kernel
theorem dX3_listShips_7 : decode cX3_listShips 7 = .ok (.if_icmp .ge 30, 3) := by decide +kernel
theorem dX3_listShips_10 : decode cX3_listShips 10 = .ok (.iload_n 2, 1) := by decide +kernel
theorem dX3_listShips_11 : decode cX3_listShips 11 = .ok (.aload_n 1, 1) := by decide +kernel
theorem dX3_listShips_12 : decode cX3_listShips 12 = .ok (.arraylength, 1) := by decide +kernel
theorem dX3_listShips_13 : decode cX3_listShips 13 = .ok (.if_icmp .ge 24, 3) := by decide +kernel
theorem dX3_listShips_16 : decode cX3_listShips 16 = .ok (.iload_n 0, 1) := by decide +kernel
theorem dX3_listShips_17 : decode cX3_listShips 17 = .ok (.iconst 1, 1) := by decide +kernel
theorem dX3_listShips_18 : decode cX3_listShips 18 = .ok (.iload_n 3, 1) := by decide +kernel
theorem dX3_listShips_19 : decode cX3_listShips 19 = .ok (.ishl, 1) := by decide +kernel
theorem dX3_listShips_20 : decode cX3_listShips 20 = .ok (.iand, 1) := by decide +kernel
theorem dX3_listShips_21 : decode cX3_listShips 21 = .ok (.ifCond .eq 10, 3) := by decide +kernel
theorem dX3_listShips_24 : decode cX3_listShips 24 = .ok (.aload_n 1, 1) := by decide +kernel
theorem dX3_listShips_25 : decode cX3_listShips 25 = .ok (.iload_n 2, 1) := by decide +kernel
theorem dX3_listShips_26 : decode cX3_listShips 26 = .ok (.iload_n 3, 1) := by decide +kernel
theorem dX3_listShips_27 : decode cX3_listShips 27 = .ok (.iastore, 1) := by decide +kernel
theorem dX3_listShips_28 : decode cX3_listShips 28 = .ok (.iinc 2 1, 3) := by decide +kernel
theorem dX3_listShips_31 : decode cX3_listShips 31 = .ok (.iinc 3 1, 3) := by decide +kernel
theorem dX3_listShips_34 : decode cX3_listShips 34 = .ok (.goto (-30), 3) := by decide +kernel
theorem dX3_listShips_37 : decode cX3_listShips 37 = .ok (.iload_n 2, 1) := by decide +kernel
theorem dX3_listShips_38 : decode cX3_listShips 38 = .ok (.ireturn, 1) := by decide +kernel
theorem dX3_penceOf_0 : decode cX3_penceOf 0 = .ok (.iconst 0, 1) := by decide +kernel
theorem dX3_penceOf_1 : decode cX3_penceOf 1 = .ok (.istore_n 2, 1) := by decide +kernel
theorem dX3_penceOf_2 : decode cX3_penceOf 2 = .ok (.iconst 0, 1) := by decide +kernel
theorem dX3_penceOf_3 : decode cX3_penceOf 3 = .ok (.istore_n 3, 1) := by decide +kernel
theorem dX3_penceOf_4 : decode cX3_penceOf 4 = .ok (.iload_n 1, 1) := by decide +kernel
theorem dX3_penceOf_5 : decode cX3_penceOf 5 = .ok (.istore 4, 2) := by decide +kernel
theorem dX3_penceOf_7 : decode cX3_penceOf 7 = .ok (.aload_n 0, 1) := by decide +kernel
theorem dX3_penceOf_8 : decode cX3_penceOf 8 = .ok (.getfield 34, 3) := by decide +kernel
theorem dX3_penceOf_11 : decode cX3_penceOf 11 = .ok (.iconst 1, 1) := by decide +kernel
theorem dX3_penceOf_12 : decode cX3_penceOf 12 = .ok (.isub, 1) := by decide +kernel
theorem dX3_penceOf_13 : decode cX3_penceOf 13 = .ok (.istore 5, 2) := by decide +kernel
theorem dX3_penceOf_15 : decode cX3_penceOf 15 = .ok (.iload 5, 2) := by decide +kernel
theorem dX3_penceOf_17 : decode cX3_penceOf 17 = .ok (.ifCond .lt 71, 3) := by decide +kernel
theorem dX3_penceOf_20 : decode cX3_penceOf 20 = .ok (.iload 4, 2) := by decide +kernel
theorem dX3_penceOf_22 : decode cX3_penceOf 22 = .ok (.aload_n 0, 1) := by decide +kernel
theorem dX3_penceOf_23 : decode cX3_penceOf 23 = .ok (.getfield 38, 3) := by decide +kernel
theorem dX3_penceOf_26 : decode cX3_penceOf 26 = .ok (.iconst 1, 1) := by decide +kernel
theorem dX3_penceOf_27 : decode cX3_penceOf 27 = .ok (.iadd, 1) := by decide +kernel
theorem dX3_penceOf_28 : decode cX3_penceOf 28 = .ok (.irem, 1) := by decide +kernel
theorem dX3_penceOf_29 : decode cX3_penceOf 29 = .ok (.istore 6, 2) := by decide +kernel
theorem dX3_penceOf_31 : decode cX3_penceOf 31 = .ok (.iload 4, 2) := by decide +kernel
theorem dX3_penceOf_33 : decode cX3_penceOf 33 = .ok (.aload_n 0, 1) := by decide +kernel
theorem dX3_penceOf_34 : decode cX3_penceOf 34 = .ok (.getfield 38, 3) := by decide +kernel
theorem dX3_penceOf_37 : decode cX3_penceOf 37 = .ok (.iconst 1, 1) := by decide +kernel
theorem dX3_penceOf_38 : decode cX3_penceOf 38 = .ok (.iadd, 1) := by decide +kernel
theorem dX3_penceOf_39 : decode cX3_penceOf 39 = .ok (.idiv, 1) := by decide +kernel
theorem dX3_penceOf_40 : decode cX3_penceOf 40 = .ok (.istore 4, 2) := by decide +kernel
theorem dX3_penceOf_42 : decode cX3_penceOf 42 = .ok (.iload 6, 2) := by decide +kernel
theorem dX3_penceOf_44 : decode cX3_penceOf 44 = .ok (.aload_n 0, 1) := by decide +kernel
theorem dX3_penceOf_45 : decode cX3_penceOf 45 = .ok (.getfield 38, 3) := by decide +kernel
theorem dX3_penceOf_48 : decode cX3_penceOf 48 = .ok (.if_icmp .ge 14, 3) := by decide +kernel
theorem dX3_penceOf_51 : decode cX3_penceOf 51 = .ok (.iload_n 3, 1) := by decide +kernel
theorem dX3_penceOf_52 : decode cX3_penceOf 52 = .ok (.iconst 1, 1) := by decide +kernel
theorem dX3_penceOf_53 : decode cX3_penceOf 53 = .ok (.iload 6, 2) := by decide +kernel
theorem dX3_penceOf_55 : decode cX3_penceOf 55 = .ok (.ishl, 1) := by decide +kernel
theorem dX3_penceOf_56 : decode cX3_penceOf 56 = .ok (.iand, 1) := by decide +kernel
theorem dX3_penceOf_57 : decode cX3_penceOf 57 = .ok (.ifCond .eq 5, 3) := by decide +kernel
theorem dX3_penceOf_60 : decode cX3_penceOf 60 = .ok (.iconst (-1), 1) := by decide +kernel
theorem dX3_penceOf_61 : decode cX3_penceOf 61 = .ok (.ireturn, 1) := by decide +kernel
theorem dX3_penceOf_62 : decode cX3_penceOf 62 = .ok (.iload_n 3, 1) := by decide +kernel
theorem dX3_penceOf_63 : decode cX3_penceOf 63 = .ok (.iconst 1, 1) := by decide +kernel
theorem dX3_penceOf_64 : decode cX3_penceOf 64 = .ok (.iload 6, 2) := by decide +kernel
theorem dX3_penceOf_66 : decode cX3_penceOf 66 = .ok (.ishl, 1) := by decide +kernel
theorem dX3_penceOf_67 : decode cX3_penceOf 67 = .ok (.ior, 1) := by decide +kernel
theorem dX3_penceOf_68 : decode cX3_penceOf 68 = .ok (.istore_n 3, 1) := by decide +kernel
theorem dX3_penceOf_69 : decode cX3_penceOf 69 = .ok (.iload_n 2, 1) := by decide +kernel
theorem dX3_penceOf_70 : decode cX3_penceOf 70 = .ok (.aload_n 0, 1) := by decide +kernel
theorem dX3_penceOf_71 : decode cX3_penceOf 71 = .ok (.getfield 20, 3) := by decide +kernel
theorem dX3_penceOf_74 : decode cX3_penceOf 74 = .ok (.iload 5, 2) := by decide +kernel
theorem dX3_penceOf_76 : decode cX3_penceOf 76 = .ok (.aaload, 1) := by decide +kernel
theorem dX3_penceOf_77 : decode cX3_penceOf 77 = .ok (.iload 6, 2) := by decide +kernel
theorem dX3_penceOf_79 : decode cX3_penceOf 79 = .ok (.iaload, 1) := by decide +kernel
theorem dX3_penceOf_80 : decode cX3_penceOf 80 = .ok (.iadd, 1) := by decide +kernel
theorem dX3_penceOf_81 : decode cX3_penceOf 81 = .ok (.istore_n 2, 1) := by decide +kernel
theorem dX3_penceOf_82 : decode cX3_penceOf 82 = .ok (.iinc 5 (-1), 3) := by decide +kernel
theorem dX3_penceOf_85 : decode cX3_penceOf 85 = .ok (.goto (-70), 3) := by decide +kernel
theorem dX3_penceOf_88 : decode cX3_penceOf 88 = .ok (.iload_n 2, 1) := by decide +kernel
theorem dX3_penceOf_89 : decode cX3_penceOf 89 = .ok (.ireturn, 1) := by decide +kernel
theorem dX3_partnerOf_0 : decode cX3_partnerOf 0 = .ok (.iconst 0, 1) := by decide +kernel
theorem dX3_partnerOf_1 : decode cX3_partnerOf 1 = .ok (.istore_n 2, 1) := by decide +kernel
theorem dX3_partnerOf_2 : decode cX3_partnerOf 2 = .ok (.iload_n 2, 1) := by decide +kernel
theorem dX3_partnerOf_3 : decode cX3_partnerOf 3 = .ok (.aload_n 0, 1) := by decide +kernel
theorem dX3_partnerOf_4 : decode cX3_partnerOf 4 = .ok (.getfield 34, 3) := by decide +kernel
theorem dX3_partnerOf_7 : decode cX3_partnerOf 7 = .ok (.if_icmp .ge 62, 3) := by decide +kernel
theorem dX3_partnerOf_10 : decode cX3_partnerOf 10 = .ok (.aload_n 0, 1) := by decide +kernel
theorem dX3_partnerOf_11 : decode cX3_partnerOf 11 = .ok (.getfield 23, 3) := by decide +kernel
theorem dX3_partnerOf_14 : decode cX3_partnerOf 14 = .ok (.iload_n 2, 1) := by decide +kernel
theorem dX3_partnerOf_15 : decode cX3_partnerOf 15 = .ok (.iaload, 1) := by decide +kernel
theorem dX3_partnerOf_16 : decode cX3_partnerOf 16 = .ok (.aload_n 0, 1) := by decide +kernel
theorem dX3_partnerOf_17 : decode cX3_partnerOf 17 = .ok (.getfield 38, 3) := by decide +kernel
theorem dX3_partnerOf_20 : decode cX3_partnerOf 20 = .ok (.if_icmp .ge 17, 3) := by decide +kernel
theorem dX3_partnerOf_23 : decode cX3_partnerOf 23 = .ok (.aload_n 0, 1) := by decide +kernel
theorem dX3_partnerOf_24 : decode cX3_partnerOf 24 = .ok (.getfield 15, 3) := by decide +kernel
theorem dX3_partnerOf_27 : decode cX3_partnerOf 27 = .ok (.aload_n 0, 1) := by decide +kernel
theorem dX3_partnerOf_28 : decode cX3_partnerOf 28 = .ok (.getfield 23, 3) := by decide +kernel
theorem dX3_partnerOf_31 : decode cX3_partnerOf 31 = .ok (.iload_n 2, 1) := by decide +kernel
theorem dX3_partnerOf_32 : decode cX3_partnerOf 32 = .ok (.iaload, 1) := by decide +kernel
theorem dX3_partnerOf_33 : decode cX3_partnerOf 33 = .ok (.iaload, 1) := by decide +kernel
theorem dX3_partnerOf_34 : decode cX3_partnerOf 34 = .ok (.goto 4, 3) := by decide +kernel
theorem dX3_partnerOf_37 : decode cX3_partnerOf 37 = .ok (.iconst (-1), 1) := by decide +kernel
theorem dX3_partnerOf_38 : decode cX3_partnerOf 38 = .ok (.istore_n 3, 1) := by decide +kernel
theorem dX3_partnerOf_39 : decode cX3_partnerOf 39 = .ok (.aload_n 0, 1) := by decide +kernel
theorem dX3_partnerOf_40 : decode cX3_partnerOf 40 = .ok (.getfield 9, 3) := by decide +kernel
theorem dX3_partnerOf_43 : decode cX3_partnerOf 43 = .ok (.iload_n 2, 1) := by decide +kernel
theorem dX3_partnerOf_44 : decode cX3_partnerOf 44 = .ok (.iaload, 1) := by decide +kernel
theorem dX3_partnerOf_45 : decode cX3_partnerOf 45 = .ok (.iload_n 1, 1) := by decide +kernel
theorem dX3_partnerOf_46 : decode cX3_partnerOf 46 = .ok (.if_icmp .ne 5, 3) := by decide +kernel
theorem dX3_partnerOf_49 : decode cX3_partnerOf 49 = .ok (.iload_n 3, 1) := by decide +kernel
theorem dX3_partnerOf_50 : decode cX3_partnerOf 50 = .ok (.ireturn, 1) := by decide +kernel
theorem dX3_partnerOf_51 : decode cX3_partnerOf 51 = .ok (.iload_n 3, 1) := by decide +kernel
theorem dX3_partnerOf_52 : decode cX3_partnerOf 52 = .ok (.iload_n 1, 1) := by decide +kernel
theorem dX3_partnerOf_53 : decode cX3_partnerOf 53 = .ok (.if_icmp .ne 10, 3) := by decide +kernel
theorem dX3_partnerOf_56 : decode cX3_partnerOf 56 = .ok (.aload_n 0, 1) := by decide +kernel
theorem dX3_partnerOf_57 : decode cX3_partnerOf 57 = .ok (.getfield 9, 3) := by decide +kernel
theorem dX3_partnerOf_60 : decode cX3_partnerOf 60 = .ok (.iload_n 2, 1) := by decide +kernel
theorem dX3_partnerOf_61 : decode cX3_partnerOf 61 = .ok (.iaload, 1) := by decide +kernel
theorem dX3_partnerOf_62 : decode cX3_partnerOf 62 = .ok (.ireturn, 1) := by decide +kernel
theorem dX3_partnerOf_63 : decode cX3_partnerOf 63 = .ok (.iinc 2 1, 3) := by decide +kernel
theorem dX3_partnerOf_66 : decode cX3_partnerOf 66 = .ok (.goto (-64), 3) := by decide +kernel
theorem dX3_partnerOf_69 : decode cX3_partnerOf 69 = .ok (.iconst (-1), 1) := by decide +kernel
theorem dX3_partnerOf_70 : decode cX3_partnerOf 70 = .ok (.ireturn, 1) := by decide +kernel
theorem dX4_init_0 : decode cX4_init 0 = .ok (.aload_n 0, 1) := by decide +kernel
theorem dX4_init_1 : decode cX4_init 1 = .ok (.invokespecial 3, 3) := by decide +kernel
theorem dX4_init_4 : decode cX4_init 4 = .ok (.aload_n 0, 1) := by decide +kernel
theorem dX4_init_5 : decode cX4_init 5 = .ok (.sipush 300, 3) := by decide +kernel
theorem dX4_init_8 : decode cX4_init 8 = .ok (.newarray .int, 2) := by decide +kernel
theorem dX4_init_10 : decode cX4_init 10 = .ok (.putfield 9, 3) := by decide +kernel
theorem dX4_init_13 : decode cX4_init 13 = .ok (.aload_n 0, 1) := by decide +kernel
theorem dX4_init_14 : decode cX4_init 14 = .ok (.iconst (-1), 1) := by decide +kernel
theorem dX4_init_15 : decode cX4_init 15 = .ok (.putfield 15, 3) := by decide +kernel
theorem dX4_init_18 : decode cX4_init 18 = .ok (.aload_n 0, 1) := by decide +kernel
theorem dX4_init_19 : decode cX4_init 19 = .ok (.iconst (-1), 1) := by decide +kernel
theorem dX4_init_20 : decode cX4_init 20 = .ok (.putfield 19, 3) := by decide +kernel
theorem dX4_init_23 : decode cX4_init 23 = .ok (.return_, 1) := by decide +kernel
theorem dX4_addFour_0 : decode cX4_addFour 0 = .ok (.aload_n 0, 1) := by decide +kernel
theorem dX4_addFour_1 : decode cX4_addFour 1 = .ok (.getfield 22, 3) := by decide +kernel
theorem dX4_addFour_4 : decode cX4_addFour 4 = .ok (.iconst 4, 1) := by decide +kernel
theorem dX4_addFour_5 : decode cX4_addFour 5 = .ok (.iadd, 1) := by decide +kernel
theorem dX4_addFour_6 : decode cX4_addFour 6 = .ok (.sipush 300, 3) := by decide +kernel
theorem dX4_addFour_9 : decode cX4_addFour 9 = .ok (.if_icmp .le 4, 3) := by decide +kernel
theorem dX4_addFour_12 : decode cX4_addFour 12 = .ok (.return_, 1) := by decide +kernel
theorem dX4_addFour_13 : decode cX4_addFour 13 = .ok (.iconst 0, 1) := by decide +kernel
theorem dX4_addFour_14 : decode cX4_addFour 14 = .ok (.istore_n 2, 1) := by decide +kernel
theorem dX4_addFour_15 : decode cX4_addFour 15 = .ok (.iload_n 2, 1) := by decide +kernel
theorem dX4_addFour_16 : decode cX4_addFour 16 = .ok (.iconst 4, 1) := by decide +kernel
theorem dX4_addFour_17 : decode cX4_addFour 17 = .ok (.if_icmp .ge 33, 3) := by decide +kernel
theorem dX4_addFour_20 : decode cX4_addFour 20 = .ok (.aload_n 0, 1) := by decide +kernel
theorem dX4_addFour_21 : decode cX4_addFour 21 = .ok (.getfield 9, 3) := by decide +kernel
theorem dX4_addFour_24 : decode cX4_addFour 24 = .ok (.aload_n 0, 1) := by decide +kernel
theorem dX4_addFour_25 : decode cX4_addFour 25 = .ok (.getfield 22, 3) := by decide +kernel
theorem dX4_addFour_28 : decode cX4_addFour 28 = .ok (.iload_n 2, 1) := by decide +kernel
theorem dX4_addFour_29 : decode cX4_addFour 29 = .ok (.iadd, 1) := by decide +kernel
theorem dX4_addFour_30 : decode cX4_addFour 30 = .ok (.iload_n 1, 1) := by decide +kernel
theorem dX4_addFour_31 : decode cX4_addFour 31 = .ok (.bipush 24, 2) := by decide +kernel
theorem dX4_addFour_33 : decode cX4_addFour 33 = .ok (.bipush 8, 2) := by decide +kernel
theorem dX4_addFour_35 : decode cX4_addFour 35 = .ok (.iload_n 2, 1) := by decide +kernel
theorem dX4_addFour_36 : decode cX4_addFour 36 = .ok (.imul, 1) := by decide +kernel
theorem dX4_addFour_37 : decode cX4_addFour 37 = .ok (.isub, 1) := by decide +kernel
theorem dX4_addFour_38 : decode cX4_addFour 38 = .ok (.iushr, 1) := by decide +kernel
theorem dX4_addFour_39 : decode cX4_addFour 39 = .ok (.sipush 255, 3) := by decide +kernel
theorem dX4_addFour_42 : decode cX4_addFour 42 = .ok (.iand, 1) := by decide +kernel
theorem dX4_addFour_43 : decode cX4_addFour 43 = .ok (.iastore, 1) := by decide +kernel
theorem dX4_addFour_44 : decode cX4_addFour 44 = .ok (.iinc 2 1, 3) := by decide +kernel
theorem dX4_addFour_47 : decode cX4_addFour 47 = .ok (.goto (-32), 3) := by decide +kernel
theorem dX4_addFour_50 : decode cX4_addFour 50 = .ok (.aload_n 0, 1) := by decide +kernel
theorem dX4_addFour_51 : decode cX4_addFour 51 = .ok (.dup, 1) := by decide +kernel
theorem dX4_addFour_52 : decode cX4_addFour 52 = .ok (.getfield 22, 3) := by decide +kernel
theorem dX4_addFour_55 : decode cX4_addFour 55 = .ok (.iconst 4, 1) := by decide +kernel
theorem dX4_addFour_56 : decode cX4_addFour 56 = .ok (.iadd, 1) := by decide +kernel
theorem dX4_addFour_57 : decode cX4_addFour 57 = .ok (.putfield 22, 3) := by decide +kernel
theorem dX4_addFour_60 : decode cX4_addFour 60 = .ok (.return_, 1) := by decide +kernel
theorem dX4_readInto_0 : decode cX4_readInto 0 = .ok (.aload_n 0, 1) := by decide +kernel
theorem dX4_readInto_1 : decode cX4_readInto 1 = .ok (.aload_n 1, 1) := by decide +kernel
theorem dX4_readInto_2 : decode cX4_readInto 2 = .ok (.putfield 25, 3) := by decide +kernel
theorem dX4_readInto_5 : decode cX4_readInto 5 = .ok (.aload_n 0, 1) := by decide +kernel
theorem dX4_readInto_6 : decode cX4_readInto 6 = .ok (.getfield 25, 3) := by decide +kernel
theorem dX4_readInto_9 : decode cX4_readInto 9 = .ok (.invokevirtual 29, 3) := by decide +kernel
theorem dX4_readInto_12 : decode cX4_readInto 12 = .ok (.aload_n 0, 1) := by decide +kernel
theorem dX4_readInto_13 : decode cX4_readInto 13 = .ok (.iconst 0, 1) := by decide +kernel
theorem dX4_readInto_14 : decode cX4_readInto 14 = .ok (.putfield 15, 3) := by decide +kernel
theorem dX4_readInto_17 : decode cX4_readInto 17 = .ok (.aload_n 0, 1) := by decide +kernel
theorem dX4_readInto_18 : decode cX4_readInto 18 = .ok (.iconst (-1), 1) := by decide +kernel
theorem dX4_readInto_19 : decode cX4_readInto 19 = .ok (.putfield 19, 3) := by decide +kernel
theorem dX4_readInto_22 : decode cX4_readInto 22 = .ok (.aload_n 0, 1) := by decide +kernel
theorem dX4_readInto_23 : decode cX4_readInto 23 = .ok (.iconst 0, 1) := by decide +kernel
theorem dX4_readInto_24 : decode cX4_readInto 24 = .ok (.putfield 34, 3) := by decide +kernel
theorem dX4_readInto_27 : decode cX4_readInto 27 = .ok (.aload_n 0, 1) := by decide +kernel
theorem dX4_readInto_28 : decode cX4_readInto 28 = .ok (.invokevirtual 37, 3) := by decide +kernel
theorem dX4_readInto_31 : decode cX4_readInto 31 = .ok (.iconst 1, 1) := by decide +kernel
theorem dX4_readInto_32 : decode cX4_readInto 32 = .ok (.istore_n 2, 1) := by decide +kernel
theorem dX4_readInto_33 : decode cX4_readInto 33 = .ok (.iconst 0, 1) := by decide +kernel
theorem dX4_readInto_34 : decode cX4_readInto 34 = .ok (.istore_n 3, 1) := by decide +kernel
theorem dX4_readInto_35 : decode cX4_readInto 35 = .ok (.iload_n 3, 1) := by decide +kernel
theorem dX4_readInto_36 : decode cX4_readInto 36 = .ok (.sipush 300, 3) := by decide +kernel
theorem dX4_readInto_39 : decode cX4_readInto 39 = .ok (.if_icmp .gt 26, 3) := by decide +kernel
theorem dX4_readInto_42 : decode cX4_readInto 42 = .ok (.iload_n 2, 1) := by decide +kernel
theorem dX4_readInto_43 : decode cX4_readInto 43 = .ok (.ifCond .eq 22, 3) := by decide +kernel
theorem dX4_readInto_46 : decode cX4_readInto 46 = .ok (.aload_n 0, 1) := by decide +kernel
theorem dX4_readInto_47 : decode cX4_readInto 47 = .ok (.getfield 40, 3) := by decide +kernel
theorem dX4_readInto_50 : decode cX4_readInto 50 = .ok (.iconst 4, 1) := by decide +kernel
theorem dX4_readInto_51 : decode cX4_readInto 51 = .ok (.if_icmp .eq 14, 3) := by decide +kernel
theorem dX4_readInto_54 : decode cX4_readInto 54 = .ok (.aload_n 0, 1) := by decide +kernel
theorem dX4_readInto_55 : decode cX4_readInto 55 = .ok (.invokevirtual 43, 3) := by decide +kernel
theorem dX4_readInto_58 : decode cX4_readInto 58 = .ok (.istore_n 2, 1) := by decide +kernel
theorem dX4_readInto_59 : decode cX4_readInto 59 = .ok (.iinc 3 1, 3) := by decide +kernel
theorem dX4_readInto_62 : decode cX4_readInto 62 = .ok (.goto (-27), 3) := by decide +kernel
theorem dX4_readInto_65 : decode cX4_readInto 65 = .ok (.iload_n 2, 1) := by decide +kernel
theorem dX4_readInto_66 : decode cX4_readInto 66 = .ok (.ireturn, 1) := by decide +kernel
theorem dX4_failBy_0 : decode cX4_failBy 0 = .ok (.aload_n 0, 1) := by decide +kernel
theorem dX4_failBy_1 : decode cX4_failBy 1 = .ok (.iload_n 1, 1) := by decide +kernel
theorem dX4_failBy_2 : decode cX4_failBy 2 = .ok (.putfield 15, 3) := by decide +kernel
theorem dX4_failBy_5 : decode cX4_failBy 5 = .ok (.aload_n 0, 1) := by decide +kernel
theorem dX4_failBy_6 : decode cX4_failBy 6 = .ok (.aload_n 0, 1) := by decide +kernel
theorem dX4_failBy_7 : decode cX4_failBy 7 = .ok (.getfield 47, 3) := by decide +kernel
theorem dX4_failBy_10 : decode cX4_failBy 10 = .ok (.putfield 19, 3) := by decide +kernel
theorem dX4_failBy_13 : decode cX4_failBy 13 = .ok (.iconst 0, 1) := by decide +kernel
theorem dX4_failBy_14 : decode cX4_failBy 14 = .ok (.ireturn, 1) := by decide +kernel
theorem dX4_readClause_0 : decode cX4_readClause 0 = .ok (.aload_n 0, 1) := by decide +kernel
theorem dX4_readClause_1 : decode cX4_readClause 1 = .ok (.getfield 40, 3) := by decide +kernel
theorem dX4_readClause_4 : decode cX4_readClause 4 = .ok (.istore_n 1, 1) := by decide +kernel
theorem dX4_readClause_5 : decode cX4_readClause 5 = .ok (.aload_n 0, 1) := by decide +kernel
theorem dX4_readClause_6 : decode cX4_readClause 6 = .ok (.iload_n 1, 1) := by decide +kernel
theorem dX4_readClause_7 : decode cX4_readClause 7 = .ok (.sipush 128, 3) := by decide +kernel
theorem dX4_readClause_10 : decode cX4_readClause 10 = .ok (.isub, 1) := by decide +kernel
theorem dX4_readClause_11 : decode cX4_readClause 11 = .ok (.putfield 50, 3) := by decide +kernel
theorem dX4_readClause_14 : decode cX4_readClause 14 = .ok (.sipush 128, 3) := by decide +kernel
theorem dX4_readClause_17 : decode cX4_readClause 17 = .ok (.iload_n 1, 1) := by decide +kernel
theorem dX4_readClause_18 : decode cX4_readClause 18 = .ok (.sipush 139, 3) := by decide +kernel
theorem dX4_readClause_21 : decode cX4_readClause 21 = .ok (.invokestatic 53, 3) := by decide +kernel
theorem dX4_readClause_24 : decode cX4_readClause 24 = .ok (.ifCond .ne 9, 3) := by decide +kernel
theorem dX4_readClause_27 : decode cX4_readClause 27 = .ok (.aload_n 0, 1) := by decide +kernel
theorem dX4_readClause_28 : decode cX4_readClause 28 = .ok (.iconst 1, 1) := by decide +kernel
theorem dX4_readClause_29 : decode cX4_readClause 29 = .ok (.invokevirtual 57, 3) := by decide +kernel
theorem dX4_readClause_32 : decode cX4_readClause 32 = .ok (.ireturn, 1) := by decide +kernel
theorem dX4_readClause_33 : decode cX4_readClause 33 = .ok (.aload_n 0, 1) := by decide +kernel
theorem dX4_readClause_34 : decode cX4_readClause 34 = .ok (.getfield 25, 3) := by decide +kernel
theorem dX4_readClause_37 : decode cX4_readClause 37 = .ok (.aload_n 0, 1) := by decide +kernel
theorem dX4_readClause_38 : decode cX4_readClause 38 = .ok (.getfield 50, 3) := by decide +kernel
theorem dX4_readClause_41 : decode cX4_readClause 41 = .ok (.invokevirtual 61, 3) := by decide +kernel
theorem dX4_readClause_44 : decode cX4_readClause 44 = .ok (.ifCond .eq 9, 3) := by decide +kernel
theorem dX4_readClause_47 : decode cX4_readClause 47 = .ok (.aload_n 0, 1) := by decide +kernel
theorem dX4_readClause_48 : decode cX4_readClause 48 = .ok (.iconst 4, 1) := by decide +kernel
theorem dX4_readClause_49 : decode cX4_readClause 49 = .ok (.invokevirtual 57, 3) := by decide +kernel
theorem dX4_readClause_52 : decode cX4_readClause 52 = .ok (.ireturn, 1) := by decide +kernel
theorem dX4_readClause_53 : decode cX4_readClause 53 = .ok (.aload_n 0, 1) := by decide +kernel
theorem dX4_readClause_54 : decode cX4_readClause 54 = .ok (.getfield 25, 3) := by decide +kernel
theorem dX4_readClause_57 : decode cX4_readClause 57 = .ok (.getfield 64, 3) := by decide +kernel
theorem dX4_readClause_60 : decode cX4_readClause 60 = .ok (.bipush 24, 2) := by decide +kernel
theorem dX4_readClause_62 : decode cX4_readClause 62 = .ok (.if_icmp .lt 10, 3) := by decide +kernel
theorem dX4_readClause_65 : decode cX4_readClause 65 = .ok (.aload_n 0, 1) := by decide +kernel
theorem dX4_readClause_66 : decode cX4_readClause 66 = .ok (.bipush 6, 2) := by decide +kernel
theorem dX4_readClause_68 : decode cX4_readClause 68 = .ok (.invokevirtual 57, 3) := by decide +kernel
theorem dX4_readClause_71 : decode cX4_readClause 71 = .ok (.ireturn, 1) := by decide +kernel
theorem dX4_readClause_72 : decode cX4_readClause 72 = .ok (.aload_n 0, 1) := by decide +kernel
theorem dX4_readClause_73 : decode cX4_readClause 73 = .ok (.getfield 25, 3) := by decide +kernel
theorem dX4_readClause_76 : decode cX4_readClause 76 = .ok (.getfield 67, 3) := by decide +kernel
theorem dX4_readClause_79 : decode cX4_readClause 79 = .ok (.aload_n 0, 1) := by decide +kernel
theorem dX4_readClause_80 : decode cX4_readClause 80 = .ok (.getfield 25, 3) := by decide +kernel
theorem dX4_readClause_83 : decode cX4_readClause 83 = .ok (.getfield 64, 3) := by decide +kernel
theorem dX4_readClause_86 : decode cX4_readClause 86 = .ok (.iload_n 1, 1) := by decide +kernel
theorem dX4_readClause_87 : decode cX4_readClause 87 = .ok (.iastore, 1) := by decide +kernel
theorem dX4_readClause_88 : decode cX4_readClause 88 = .ok (.aload_n 0, 1) := by decide +kernel
theorem dX4_readClause_89 : decode cX4_readClause 89 = .ok (.invokevirtual 37, 3) := by decide +kernel
theorem dX4_readClause_92 : decode cX4_readClause 92 = .ok (.iload_n 1, 1) := by decide +kernel
theorem dX4_readClause_93 : decode cX4_readClause 93 = .ok (.sipush 132, 3) := by decide +kernel
theorem dX4_readClause_96 : decode cX4_readClause 96 = .ok (.if_icmp .le 17, 3) := by decide +kernel
theorem dX4_readClause_99 : decode cX4_readClause 99 = .ok (.aload_n 0, 1) := by decide +kernel
theorem dX4_readClause_100 : decode cX4_readClause 100 = .ok (.iload_n 1, 1) := by decide +kernel
theorem dX4_readClause_101 : decode cX4_readClause 101 = .ok (.sipush 133, 3) := by decide +kernel
theorem dX4_readClause_104 : decode cX4_readClause 104 = .ok (.isub, 1) := by decide +kernel
theorem dX4_readClause_105 : decode cX4_readClause 105 = .ok (.invokevirtual 70, 3) := by decide +kernel
theorem dX4_readClause_108 : decode cX4_readClause 108 = .ok (.ifCond .ne 65, 3) := by decide +kernel
theorem dX4_readClause_111 : decode cX4_readClause 111 = .ok (.iconst 0, 1) := by decide +kernel
theorem dX4_readClause_112 : decode cX4_readClause 112 = .ok (.ireturn, 1) := by decide +kernel
theorem dX4_readClause_113 : decode cX4_readClause 113 = .ok (.aload_n 0, 1) := by decide +kernel
theorem dX4_readClause_114 : decode cX4_readClause 114 = .ok (.getfield 25, 3) := by decide +kernel
theorem dX4_readClause_117 : decode cX4_readClause 117 = .ok (.getfield 73, 3) := by decide +kernel
theorem dX4_readClause_120 : decode cX4_readClause 120 = .ok (.aload_n 0, 1) := by decide +kernel
theorem dX4_readClause_121 : decode cX4_readClause 121 = .ok (.getfield 50, 3) := by decide +kernel
theorem dX4_readClause_124 : decode cX4_readClause 124 = .ok (.aload_n 0, 1) := by decide +kernel
theorem dX4_readClause_125 : decode cX4_readClause 125 = .ok (.getfield 25, 3) := by decide +kernel
theorem dX4_readClause_128 : decode cX4_readClause 128 = .ok (.getfield 76, 3) := by decide +kernel
theorem dX4_readClause_131 : decode cX4_readClause 131 = .ok (.iastore, 1) := by decide +kernel
theorem dX4_readClause_132 : decode cX4_readClause 132 = .ok (.aload_n 0, 1) := by decide +kernel
theorem dX4_readClause_133 : decode cX4_readClause 133 = .ok (.iload_n 1, 1) := by decide +kernel
theorem dX4_readClause_134 : decode cX4_readClause 134 = .ok (.sipush 132, 3) := by decide +kernel
theorem dX4_readClause_137 : decode cX4_readClause 137 = .ok (.if_icmp .ne 7, 3) := by decide +kernel
theorem dX4_readClause_140 : decode cX4_readClause 140 = .ok (.iconst 0, 1) := by decide +kernel
theorem dX4_readClause_141 : decode cX4_readClause 141 = .ok (.goto 4, 3) := by decide +kernel
theorem dX4_readClause_144 : decode cX4_readClause 144 = .ok (.iconst 3, 1) := by decide +kernel
theorem dX4_readClause_145 : decode cX4_readClause 145 = .ok (.iconst 0, 1) := by decide +kernel
theorem dX4_readClause_146 : decode cX4_readClause 146 = .ok (.invokevirtual 79, 3) := by decide +kernel
theorem dX4_readClause_149 : decode cX4_readClause 149 = .ok (.ifCond .ne 5, 3) := by decide +kernel
theorem dX4_readClause_152 : decode cX4_readClause 152 = .ok (.iconst 0, 1) := by decide +kernel
theorem dX4_readClause_153 : decode cX4_readClause 153 = .ok (.ireturn, 1) := by decide +kernel
theorem dX4_readClause_154 : decode cX4_readClause 154 = .ok (.aload_n 0, 1) := by decide +kernel
theorem dX4_readClause_155 : decode cX4_readClause 155 = .ok (.getfield 25, 3) := by decide +kernel
theorem dX4_readClause_158 : decode cX4_readClause 158 = .ok (.getfield 83, 3) := by decide +kernel
theorem dX4_readClause_161 : decode cX4_readClause 161 = .ok (.aload_n 0, 1) := by decide +kernel
theorem dX4_readClause_162 : decode cX4_readClause 162 = .ok (.getfield 50, 3) := by decide +kernel
theorem dX4_readClause_165 : decode cX4_readClause 165 = .ok (.aload_n 0, 1) := by decide +kernel
theorem dX4_readClause_166 : decode cX4_readClause 166 = .ok (.getfield 25, 3) := by decide +kernel
theorem dX4_readClause_169 : decode cX4_readClause 169 = .ok (.getfield 76, 3) := by decide +kernel
theorem dX4_readClause_172 : decode cX4_readClause 172 = .ok (.iastore, 1) := by decide +kernel
theorem dX4_readClause_173 : decode cX4_readClause 173 = .ok (.aload_n 0, 1) := by decide +kernel
theorem dX4_readClause_174 : decode cX4_readClause 174 = .ok (.getfield 40, 3) := by decide +kernel
theorem dX4_readClause_177 : decode cX4_readClause 177 = .ok (.bipush 59, 2) := by decide +kernel
theorem dX4_readClause_179 : decode cX4_readClause 179 = .ok (.if_icmp .eq 9, 3) := by decide +kernel
theorem dX4_readClause_182 : decode cX4_readClause 182 = .ok (.aload_n 0, 1) := by decide +kernel
theorem dX4_readClause_183 : decode cX4_readClause 183 = .ok (.iconst 1, 1) := by decide +kernel
theorem dX4_readClause_184 : decode cX4_readClause 184 = .ok (.invokevirtual 57, 3) := by decide +kernel
theorem dX4_readClause_187 : decode cX4_readClause 187 = .ok (.ireturn, 1) := by decide +kernel
theorem dX4_readClause_188 : decode cX4_readClause 188 = .ok (.aload_n 0, 1) := by decide +kernel
theorem dX4_readClause_189 : decode cX4_readClause 189 = .ok (.getfield 25, 3) := by decide +kernel
theorem dX4_readClause_192 : decode cX4_readClause 192 = .ok (.dup, 1) := by decide +kernel
theorem dX4_readClause_193 : decode cX4_readClause 193 = .ok (.getfield 64, 3) := by decide +kernel
theorem dX4_readClause_196 : decode cX4_readClause 196 = .ok (.iconst 1, 1) := by decide +kernel
theorem dX4_readClause_197 : decode cX4_readClause 197 = .ok (.iadd, 1) := by decide +kernel
theorem dX4_readClause_198 : decode cX4_readClause 198 = .ok (.putfield 64, 3) := by decide +kernel
theorem dX4_readClause_201 : decode cX4_readClause 201 = .ok (.aload_n 0, 1) := by decide +kernel
theorem dX4_readClause_202 : decode cX4_readClause 202 = .ok (.invokevirtual 37, 3) := by decide +kernel
theorem dX4_readClause_205 : decode cX4_readClause 205 = .ok (.iconst 1, 1) := by decide +kernel
theorem dX4_readClause_206 : decode cX4_readClause 206 = .ok (.ireturn, 1) := by decide +kernel
theorem dX4_readNumbers_0 : decode cX4_readNumbers 0 = .ok (.aload_n 0, 1) := by decide +kernel
theorem dX4_readNumbers_1 : decode cX4_readNumbers 1 = .ok (.getfield 25, 3) := by decide +kernel
theorem dX4_readNumbers_4 : decode cX4_readNumbers 4 = .ok (.getfield 64, 3) := by decide +kernel
theorem dX4_readNumbers_7 : decode cX4_readNumbers 7 = .ok (.iconst 4, 1) := by decide +kernel
theorem dX4_readNumbers_8 : decode cX4_readNumbers 8 = .ok (.imul, 1) := by decide +kernel
theorem dX4_readNumbers_9 : decode cX4_readNumbers 9 = .ok (.istore_n 2, 1) := by decide +kernel
theorem dX4_readNumbers_10 : decode cX4_readNumbers 10 = .ok (.getstatic 86, 3) := by decide +kernel
theorem dX4_readNumbers_13 : decode cX4_readNumbers 13 = .ok (.iload_n 1, 1) := by decide +kernel
theorem dX4_readNumbers_14 : decode cX4_readNumbers 14 = .ok (.iaload, 1) := by decide +kernel
theorem dX4_readNumbers_15 : decode cX4_readNumbers 15 = .ok (.istore_n 3, 1) := by decide +kernel
theorem dX4_readNumbers_16 : decode cX4_readNumbers 16 = .ok (.iload_n 3, 1) := by decide +kernel
theorem dX4_readNumbers_17 : decode cX4_readNumbers 17 = .ok (.getstatic 86, 3) := by decide +kernel
theorem dX4_readNumbers_20 : decode cX4_readNumbers 20 = .ok (.iload_n 1, 1) := by decide +kernel
theorem dX4_readNumbers_21 : decode cX4_readNumbers 21 = .ok (.iconst 1, 1) := by decide +kernel
theorem dX4_readNumbers_22 : decode cX4_readNumbers 22 = .ok (.iadd, 1) := by decide +kernel
theorem dX4_readNumbers_23 : decode cX4_readNumbers 23 = .ok (.iaload, 1) := by decide +kernel
theorem dX4_readNumbers_24 : decode cX4_readNumbers 24 = .ok (.if_icmp .ge 99, 3) := by decide +kernel
theorem dX4_readNumbers_27 : decode cX4_readNumbers 27 = .ok (.getstatic 89, 3) := by decide +kernel
theorem dX4_readNumbers_30 : decode cX4_readNumbers 30 = .ok (.iload_n 3, 1) := by decide +kernel
theorem dX4_readNumbers_31 : decode cX4_readNumbers 31 = .ok (.iaload, 1) := by decide +kernel
theorem dX4_readNumbers_32 : decode cX4_readNumbers 32 = .ok (.ifCond .eq 25, 3) := by decide +kernel
theorem dX4_readNumbers_35 : decode cX4_readNumbers 35 = .ok (.aload_n 0, 1) := by decide +kernel
theorem dX4_readNumbers_36 : decode cX4_readNumbers 36 = .ok (.getfield 40, 3) := by decide +kernel
theorem dX4_readNumbers_39 : decode cX4_readNumbers 39 = .ok (.getstatic 89, 3) := by decide +kernel
theorem dX4_readNumbers_42 : decode cX4_readNumbers 42 = .ok (.iload_n 3, 1) := by decide +kernel
theorem dX4_readNumbers_43 : decode cX4_readNumbers 43 = .ok (.iaload, 1) := by decide +kernel
theorem dX4_readNumbers_44 : decode cX4_readNumbers 44 = .ok (.if_icmp .eq 9, 3) := by decide +kernel
theorem dX4_readNumbers_47 : decode cX4_readNumbers 47 = .ok (.aload_n 0, 1) := by decide +kernel
theorem dX4_readNumbers_48 : decode cX4_readNumbers 48 = .ok (.iconst 1, 1) := by decide +kernel
theorem dX4_readNumbers_49 : decode cX4_readNumbers 49 = .ok (.invokevirtual 57, 3) := by decide +kernel
theorem dX4_readNumbers_52 : decode cX4_readNumbers 52 = .ok (.ireturn, 1) := by decide +kernel
theorem dX4_readNumbers_53 : decode cX4_readNumbers 53 = .ok (.aload_n 0, 1) := by decide +kernel
theorem dX4_readNumbers_54 : decode cX4_readNumbers 54 = .ok (.invokevirtual 37, 3) := by decide +kernel
theorem dX4_readNumbers_57 : decode cX4_readNumbers 57 = .ok (.aload_n 0, 1) := by decide +kernel
theorem dX4_readNumbers_58 : decode cX4_readNumbers 58 = .ok (.getfield 40, 3) := by decide +kernel
theorem dX4_readNumbers_61 : decode cX4_readNumbers 61 = .ok (.iconst 3, 1) := by decide +kernel
theorem dX4_readNumbers_62 : decode cX4_readNumbers 62 = .ok (.if_icmp .eq 9, 3) := by decide +kernel
theorem dX4_readNumbers_65 : decode cX4_readNumbers 65 = .ok (.aload_n 0, 1) := by decide +kernel
theorem dX4_readNumbers_66 : decode cX4_readNumbers 66 = .ok (.iconst 1, 1) := by decide +kernel
theorem dX4_readNumbers_67 : decode cX4_readNumbers 67 = .ok (.invokevirtual 57, 3) := by decide +kernel
theorem dX4_readNumbers_70 : decode cX4_readNumbers 70 = .ok (.ireturn, 1) := by decide +kernel
theorem dX4_readNumbers_71 : decode cX4_readNumbers 71 = .ok (.getstatic 92, 3) := by decide +kernel
theorem dX4_readNumbers_74 : decode cX4_readNumbers 74 = .ok (.iload_n 3, 1) := by decide +kernel
theorem dX4_readNumbers_75 : decode cX4_readNumbers 75 = .ok (.iaload, 1) := by decide +kernel
theorem dX4_readNumbers_76 : decode cX4_readNumbers 76 = .ok (.aload_n 0, 1) := by decide +kernel
theorem dX4_readNumbers_77 : decode cX4_readNumbers 77 = .ok (.getfield 95, 3) := by decide +kernel
theorem dX4_readNumbers_80 : decode cX4_readNumbers 80 = .ok (.getstatic 98, 3) := by decide +kernel
theorem dX4_readNumbers_83 : decode cX4_readNumbers 83 = .ok (.iload_n 3, 1) := by decide +kernel
theorem dX4_readNumbers_84 : decode cX4_readNumbers 84 = .ok (.iaload, 1) := by decide +kernel
theorem dX4_readNumbers_85 : decode cX4_readNumbers 85 = .ok (.invokestatic 53, 3) := by decide +kernel
theorem dX4_readNumbers_88 : decode cX4_readNumbers 88 = .ok (.ifCond .ne 9, 3) := by decide +kernel
theorem dX4_readNumbers_91 : decode cX4_readNumbers 91 = .ok (.aload_n 0, 1) := by decide +kernel
theorem dX4_readNumbers_92 : decode cX4_readNumbers 92 = .ok (.iconst 2, 1) := by decide +kernel
theorem dX4_readNumbers_93 : decode cX4_readNumbers 93 = .ok (.invokevirtual 57, 3) := by decide +kernel
theorem dX4_readNumbers_96 : decode cX4_readNumbers 96 = .ok (.ireturn, 1) := by decide +kernel
theorem dX4_readNumbers_97 : decode cX4_readNumbers 97 = .ok (.aload_n 0, 1) := by decide +kernel
theorem dX4_readNumbers_98 : decode cX4_readNumbers 98 = .ok (.getfield 25, 3) := by decide +kernel
theorem dX4_readNumbers_101 : decode cX4_readNumbers 101 = .ok (.getfield 101, 3) := by decide +kernel
theorem dX4_readNumbers_104 : decode cX4_readNumbers 104 = .ok (.iload_n 2, 1) := by decide +kernel
theorem dX4_readNumbers_105 : decode cX4_readNumbers 105 = .ok (.aload_n 0, 1) := by decide +kernel
theorem dX4_readNumbers_106 : decode cX4_readNumbers 106 = .ok (.getfield 95, 3) := by decide +kernel
theorem dX4_readNumbers_109 : decode cX4_readNumbers 109 = .ok (.iastore, 1) := by decide +kernel
theorem dX4_readNumbers_110 : decode cX4_readNumbers 110 = .ok (.iinc 2 1, 3) := by decide +kernel
theorem dX4_readNumbers_113 : decode cX4_readNumbers 113 = .ok (.aload_n 0, 1) := by decide +kernel
theorem dX4_readNumbers_114 : decode cX4_readNumbers 114 = .ok (.invokevirtual 37, 3) := by decide +kernel
theorem dX4_readNumbers_117 : decode cX4_readNumbers 117 = .ok (.iinc 3 1, 3) := by decide +kernel
theorem dX4_readNumbers_120 : decode cX4_readNumbers 120 = .ok (.goto (-104), 3) := by decide +kernel
theorem dX4_readNumbers_123 : decode cX4_readNumbers 123 = .ok (.iconst 1, 1) := by decide +kernel
theorem dX4_readNumbers_124 : decode cX4_readNumbers 124 = .ok (.ireturn, 1) := by decide +kernel
theorem dX4_readPart_0 : decode cX4_readPart 0 = .ok (.iload_n 1, 1) := by decide +kernel
theorem dX4_readPart_1 : decode cX4_readPart 1 = .ok (.iconst 2, 1) := by decide +kernel
theorem dX4_readPart_2 : decode cX4_readPart 2 = .ok (.if_icmp .ne 9, 3) := by decide +kernel
theorem dX4_readPart_5 : decode cX4_readPart 5 = .ok (.aload_n 0, 1) := by decide +kernel
theorem dX4_readPart_6 : decode cX4_readPart 6 = .ok (.iload_n 2, 1) := by decide +kernel
theorem dX4_readPart_7 : decode cX4_readPart 7 = .ok (.invokevirtual 104, 3) := by decide +kernel
theorem dX4_readPart_10 : decode cX4_readPart 10 = .ok (.ireturn, 1) := by decide +kernel
theorem dX4_readPart_11 : decode cX4_readPart 11 = .ok (.iload_n 1, 1) := by decide +kernel
theorem dX4_readPart_12 : decode cX4_readPart 12 = .ok (.iconst 5, 1) := by decide +kernel
theorem dX4_readPart_13 : decode cX4_readPart 13 = .ok (.if_icmp .ne 9, 3) := by decide +kernel
theorem dX4_readPart_16 : decode cX4_readPart 16 = .ok (.aload_n 0, 1) := by decide +kernel
theorem dX4_readPart_17 : decode cX4_readPart 17 = .ok (.iload_n 2, 1) := by decide +kernel
theorem dX4_readPart_18 : decode cX4_readPart 18 = .ok (.invokevirtual 107, 3) := by decide +kernel
theorem dX4_readPart_21 : decode cX4_readPart 21 = .ok (.ireturn, 1) := by decide +kernel
theorem dX4_readPart_22 : decode cX4_readPart 22 = .ok (.aload_n 0, 1) := by decide +kernel
theorem dX4_readPart_23 : decode cX4_readPart 23 = .ok (.iload_n 1, 1) := by decide +kernel
theorem dX4_readPart_24 : decode cX4_readPart 24 = .ok (.iconst 1, 1) := by decide +kernel
theorem dX4_readPart_25 : decode cX4_readPart 25 = .ok (.iadd, 1) := by decide +kernel
theorem dX4_readPart_26 : decode cX4_readPart 26 = .ok (.iload_n 2, 1) := by decide +kernel
theorem dX4_readPart_27 : decode cX4_readPart 27 = .ok (.invokevirtual 79, 3) := by decide +kernel
theorem dX4_readPart_30 : decode cX4_readPart 30 = .ok (.ifCond .ne 5, 3) := by decide +kernel
theorem dX4_readPart_33 : decode cX4_readPart 33 = .ok (.iconst 0, 1) := by decide +kernel
theorem dX4_readPart_34 : decode cX4_readPart 34 = .ok (.ireturn, 1) := by decide +kernel
theorem dX4_readPart_35 : decode cX4_readPart 35 = .ok (.iconst 0, 1) := by decide +kernel
theorem dX4_readPart_36 : decode cX4_readPart 36 = .ok (.istore_n 3, 1) := by decide +kernel
theorem dX4_readPart_37 : decode cX4_readPart 37 = .ok (.iload_n 3, 1) := by decide +kernel
theorem dX4_readPart_38 : decode cX4_readPart 38 = .ok (.sipush 300, 3) := by decide +kernel
theorem dX4_readPart_41 : decode cX4_readPart 41 = .ok (.if_icmp .ge 50, 3) := by decide +kernel
theorem dX4_readPart_44 : decode cX4_readPart 44 = .ok (.aload_n 0, 1) := by decide +kernel
theorem dX4_readPart_45 : decode cX4_readPart 45 = .ok (.iload_n 1, 1) := by decide +kernel
theorem dX4_readPart_46 : decode cX4_readPart 46 = .ok (.invokevirtual 110, 3) := by decide +kernel
theorem dX4_readPart_49 : decode cX4_readPart 49 = .ok (.ifCond .eq 42, 3) := by decide +kernel
theorem dX4_readPart_52 : decode cX4_readPart 52 = .ok (.aload_n 0, 1) := by decide +kernel
theorem dX4_readPart_53 : decode cX4_readPart 53 = .ok (.getfield 40, 3) := by decide +kernel
theorem dX4_readPart_56 : decode cX4_readPart 56 = .ok (.istore 4, 2) := by decide +kernel
theorem dX4_readPart_58 : decode cX4_readPart 58 = .ok (.aload_n 0, 1) := by decide +kernel
theorem dX4_readPart_59 : decode cX4_readPart 59 = .ok (.invokevirtual 37, 3) := by decide +kernel
theorem dX4_readPart_62 : decode cX4_readPart 62 = .ok (.aload_n 0, 1) := by decide +kernel
theorem dX4_readPart_63 : decode cX4_readPart 63 = .ok (.iload_n 1, 1) := by decide +kernel
theorem dX4_readPart_64 : decode cX4_readPart 64 = .ok (.iconst 1, 1) := by decide +kernel
theorem dX4_readPart_65 : decode cX4_readPart 65 = .ok (.iadd, 1) := by decide +kernel
theorem dX4_readPart_66 : decode cX4_readPart 66 = .ok (.iload_n 2, 1) := by decide +kernel
theorem dX4_readPart_67 : decode cX4_readPart 67 = .ok (.invokevirtual 79, 3) := by decide +kernel
theorem dX4_readPart_70 : decode cX4_readPart 70 = .ok (.ifCond .ne 5, 3) := by decide +kernel
theorem dX4_readPart_73 : decode cX4_readPart 73 = .ok (.iconst 0, 1) := by decide +kernel
theorem dX4_readPart_74 : decode cX4_readPart 74 = .ok (.ireturn, 1) := by decide +kernel
theorem dX4_readPart_75 : decode cX4_readPart 75 = .ok (.aload_n 0, 1) := by decide +kernel
theorem dX4_readPart_76 : decode cX4_readPart 76 = .ok (.getfield 25, 3) := by decide +kernel
theorem dX4_readPart_79 : decode cX4_readPart 79 = .ok (.iload 4, 2) := by decide +kernel
theorem dX4_readPart_81 : decode cX4_readPart 81 = .ok (.iconst 0, 1) := by decide +kernel
theorem dX4_readPart_82 : decode cX4_readPart 82 = .ok (.invokevirtual 113, 3) := by decide +kernel
theorem dX4_readPart_85 : decode cX4_readPart 85 = .ok (.iinc 3 1, 3) := by decide +kernel
theorem dX4_readPart_88 : decode cX4_readPart 88 = .ok (.goto (-51), 3) := by decide +kernel
theorem dX4_readPart_91 : decode cX4_readPart 91 = .ok (.iconst 1, 1) := by decide +kernel
theorem dX4_readPart_92 : decode cX4_readPart 92 = .ok (.ireturn, 1) := by decide +kernel
theorem dX4_joinsAt_0 : decode cX4_joinsAt 0 = .ok (.iload_n 1, 1) := by decide +kernel
theorem dX4_joinsAt_1 : decode cX4_joinsAt 1 = .ok (.tableswitch 115 0 4 #[35, 51, 115, 67, 91], 35) := by decide +kernel
theorem dX4_joinsAt_36 : decode cX4_joinsAt 36 = .ok (.aload_n 0, 1) := by decide +kernel
theorem dX4_joinsAt_37 : decode cX4_joinsAt 37 = .ok (.getfield 40, 3) := by decide +kernel
theorem dX4_joinsAt_40 : decode cX4_joinsAt 40 = .ok (.sipush 152, 3) := by decide +kernel
theorem dX4_joinsAt_43 : decode cX4_joinsAt 43 = .ok (.if_icmp .ne 7, 3) := by decide +kernel
theorem dX4_joinsAt_46 : decode cX4_joinsAt 46 = .ok (.iconst 1, 1) := by decide +kernel
theorem dX4_joinsAt_47 : decode cX4_joinsAt 47 = .ok (.goto 4, 3) := by decide +kernel
theorem dX4_joinsAt_50 : decode cX4_joinsAt 50 = .ok (.iconst 0, 1) := by decide +kernel
theorem dX4_joinsAt_51 : decode cX4_joinsAt 51 = .ok (.ireturn, 1) := by decide +kernel
theorem dX4_joinsAt_52 : decode cX4_joinsAt 52 = .ok (.aload_n 0, 1) := by decide +kernel
theorem dX4_joinsAt_53 : decode cX4_joinsAt 53 = .ok (.getfield 40, 3) := by decide +kernel
theorem dX4_joinsAt_56 : decode cX4_joinsAt 56 = .ok (.sipush 153, 3) := by decide +kernel
theorem dX4_joinsAt_59 : decode cX4_joinsAt 59 = .ok (.if_icmp .ne 7, 3) := by decide +kernel
theorem dX4_joinsAt_62 : decode cX4_joinsAt 62 = .ok (.iconst 1, 1) := by decide +kernel
theorem dX4_joinsAt_63 : decode cX4_joinsAt 63 = .ok (.goto 4, 3) := by decide +kernel
theorem dX4_joinsAt_66 : decode cX4_joinsAt 66 = .ok (.iconst 0, 1) := by decide +kernel
theorem dX4_joinsAt_67 : decode cX4_joinsAt 67 = .ok (.ireturn, 1) := by decide +kernel
theorem dX4_joinsAt_68 : decode cX4_joinsAt 68 = .ok (.aload_n 0, 1) := by decide +kernel
theorem dX4_joinsAt_69 : decode cX4_joinsAt 69 = .ok (.getfield 40, 3) := by decide +kernel
theorem dX4_joinsAt_72 : decode cX4_joinsAt 72 = .ok (.bipush 43, 2) := by decide +kernel
theorem dX4_joinsAt_74 : decode cX4_joinsAt 74 = .ok (.if_icmp .eq 12, 3) := by decide +kernel
theorem dX4_joinsAt_77 : decode cX4_joinsAt 77 = .ok (.aload_n 0, 1) := by decide +kernel
theorem dX4_joinsAt_78 : decode cX4_joinsAt 78 = .ok (.getfield 40, 3) := by decide +kernel
theorem dX4_joinsAt_81 : decode cX4_joinsAt 81 = .ok (.bipush 45, 2) := by decide +kernel
theorem dX4_joinsAt_83 : decode cX4_joinsAt 83 = .ok (.if_icmp .ne 7, 3) := by decide +kernel
theorem dX4_joinsAt_86 : decode cX4_joinsAt 86 = .ok (.iconst 1, 1) := by decide +kernel
theorem dX4_joinsAt_87 : decode cX4_joinsAt 87 = .ok (.goto 4, 3) := by decide +kernel
theorem dX4_joinsAt_90 : decode cX4_joinsAt 90 = .ok (.iconst 0, 1) := by decide +kernel
theorem dX4_joinsAt_91 : decode cX4_joinsAt 91 = .ok (.ireturn, 1) := by decide +kernel
theorem dX4_joinsAt_92 : decode cX4_joinsAt 92 = .ok (.aload_n 0, 1) := by decide +kernel
theorem dX4_joinsAt_93 : decode cX4_joinsAt 93 = .ok (.getfield 40, 3) := by decide +kernel
theorem dX4_joinsAt_96 : decode cX4_joinsAt 96 = .ok (.bipush 42, 2) := by decide +kernel
theorem dX4_joinsAt_98 : decode cX4_joinsAt 98 = .ok (.if_icmp .eq 12, 3) := by decide +kernel
theorem dX4_joinsAt_101 : decode cX4_joinsAt 101 = .ok (.aload_n 0, 1) := by decide +kernel
theorem dX4_joinsAt_102 : decode cX4_joinsAt 102 = .ok (.getfield 40, 3) := by decide +kernel
theorem dX4_joinsAt_105 : decode cX4_joinsAt 105 = .ok (.bipush 47, 2) := by decide +kernel
theorem dX4_joinsAt_107 : decode cX4_joinsAt 107 = .ok (.if_icmp .ne 7, 3) := by decide +kernel
theorem dX4_joinsAt_110 : decode cX4_joinsAt 110 = .ok (.iconst 1, 1) := by decide +kernel
theorem dX4_joinsAt_111 : decode cX4_joinsAt 111 = .ok (.goto 4, 3) := by decide +kernel
theorem dX4_joinsAt_114 : decode cX4_joinsAt 114 = .ok (.iconst 0, 1) := by decide +kernel
theorem dX4_joinsAt_115 : decode cX4_joinsAt 115 = .ok (.ireturn, 1) := by decide +kernel
theorem dX4_joinsAt_116 : decode cX4_joinsAt 116 = .ok (.iconst 0, 1) := by decide +kernel
theorem dX4_joinsAt_117 : decode cX4_joinsAt 117 = .ok (.ireturn, 1) := by decide +kernel
theorem dX4_readAsk_0 : decode cX4_readAsk 0 = .ok (.aload_n 0, 1) := by decide +kernel
theorem dX4_readAsk_1 : decode cX4_readAsk 1 = .ok (.getfield 40, 3) := by decide +kernel
theorem dX4_readAsk_4 : decode cX4_readAsk 4 = .ok (.sipush 154, 3) := by decide +kernel
theorem dX4_readAsk_7 : decode cX4_readAsk 7 = .ok (.if_icmp .ne 44, 3) := by decide +kernel
theorem dX4_readAsk_10 : decode cX4_readAsk 10 = .ok (.iload_n 1, 1) := by decide +kernel
theorem dX4_readAsk_11 : decode cX4_readAsk 11 = .ok (.bipush 8, 2) := by decide +kernel
theorem dX4_readAsk_13 : decode cX4_readAsk 13 = .ok (.if_icmp .lt 9, 3) := by decide +kernel
theorem dX4_readAsk_16 : decode cX4_readAsk 16 = .ok (.aload_n 0, 1) := by decide +kernel
theorem dX4_readAsk_17 : decode cX4_readAsk 17 = .ok (.iconst 3, 1) := by decide +kernel
theorem dX4_readAsk_18 : decode cX4_readAsk 18 = .ok (.invokevirtual 57, 3) := by decide +kernel
theorem dX4_readAsk_21 : decode cX4_readAsk 21 = .ok (.ireturn, 1) := by decide +kernel
theorem dX4_readAsk_22 : decode cX4_readAsk 22 = .ok (.aload_n 0, 1) := by decide +kernel
theorem dX4_readAsk_23 : decode cX4_readAsk 23 = .ok (.invokevirtual 37, 3) := by decide +kernel
theorem dX4_readAsk_26 : decode cX4_readAsk 26 = .ok (.aload_n 0, 1) := by decide +kernel
theorem dX4_readAsk_27 : decode cX4_readAsk 27 = .ok (.iload_n 1, 1) := by decide +kernel
theorem dX4_readAsk_28 : decode cX4_readAsk 28 = .ok (.iconst 1, 1) := by decide +kernel
theorem dX4_readAsk_29 : decode cX4_readAsk 29 = .ok (.iadd, 1) := by decide +kernel
theorem dX4_readAsk_30 : decode cX4_readAsk 30 = .ok (.invokevirtual 104, 3) := by decide +kernel
theorem dX4_readAsk_33 : decode cX4_readAsk 33 = .ok (.ifCond .ne 5, 3) := by decide +kernel
theorem dX4_readAsk_36 : decode cX4_readAsk 36 = .ok (.iconst 0, 1) := by decide +kernel
theorem dX4_readAsk_37 : decode cX4_readAsk 37 = .ok (.ireturn, 1) := by decide +kernel
theorem dX4_readAsk_38 : decode cX4_readAsk 38 = .ok (.aload_n 0, 1) := by decide +kernel
theorem dX4_readAsk_39 : decode cX4_readAsk 39 = .ok (.getfield 25, 3) := by decide +kernel
theorem dX4_readAsk_42 : decode cX4_readAsk 42 = .ok (.sipush 154, 3) := by decide +kernel
theorem dX4_readAsk_45 : decode cX4_readAsk 45 = .ok (.iconst 0, 1) := by decide +kernel
theorem dX4_readAsk_46 : decode cX4_readAsk 46 = .ok (.invokevirtual 113, 3) := by decide +kernel
theorem dX4_readAsk_49 : decode cX4_readAsk 49 = .ok (.iconst 1, 1) := by decide +kernel
theorem dX4_readAsk_50 : decode cX4_readAsk 50 = .ok (.ireturn, 1) := by decide +kernel
theorem dX4_readAsk_51 : decode cX4_readAsk 51 = .ok (.aload_n 0, 1) := by decide +kernel
theorem dX4_readAsk_52 : decode cX4_readAsk 52 = .ok (.iconst 3, 1) := by decide +kernel
theorem dX4_readAsk_53 : decode cX4_readAsk 53 = .ok (.iload_n 1, 1) := by decide +kernel
theorem dX4_readAsk_54 : decode cX4_readAsk 54 = .ok (.invokevirtual 79, 3) := by decide +kernel
theorem dX4_readAsk_57 : decode cX4_readAsk 57 = .ok (.ifCond .ne 5, 3) := by decide +kernel
theorem dX4_readAsk_60 : decode cX4_readAsk 60 = .ok (.iconst 0, 1) := by decide +kernel
theorem dX4_readAsk_61 : decode cX4_readAsk 61 = .ok (.ireturn, 1) := by decide +kernel
theorem dX4_readAsk_62 : decode cX4_readAsk 62 = .ok (.aload_n 0, 1) := by decide +kernel
theorem dX4_readAsk_63 : decode cX4_readAsk 63 = .ok (.getfield 40, 3) := by decide +kernel
theorem dX4_readAsk_66 : decode cX4_readAsk 66 = .ok (.istore_n 2, 1) := by decide +kernel
theorem dX4_readAsk_67 : decode cX4_readAsk 67 = .ok (.iload_n 2, 1) := by decide +kernel
theorem dX4_readAsk_68 : decode cX4_readAsk 68 = .ok (.bipush 60, 2) := by decide +kernel
theorem dX4_readAsk_70 : decode cX4_readAsk 70 = .ok (.if_icmp .eq 37, 3) := by decide +kernel
theorem dX4_readAsk_73 : decode cX4_readAsk 73 = .ok (.iload_n 2, 1) := by decide +kernel
theorem dX4_readAsk_74 : decode cX4_readAsk 74 = .ok (.bipush 62, 2) := by decide +kernel
theorem dX4_readAsk_76 : decode cX4_readAsk 76 = .ok (.if_icmp .eq 31, 3) := by decide +kernel
theorem dX4_readAsk_79 : decode cX4_readAsk 79 = .ok (.iload_n 2, 1) := by decide +kernel
theorem dX4_readAsk_80 : decode cX4_readAsk 80 = .ok (.bipush 61, 2) := by decide +kernel
theorem dX4_readAsk_82 : decode cX4_readAsk 82 = .ok (.if_icmp .eq 25, 3) := by decide +kernel
theorem dX4_readAsk_85 : decode cX4_readAsk 85 = .ok (.iload_n 2, 1) := by decide +kernel
theorem dX4_readAsk_86 : decode cX4_readAsk 86 = .ok (.bipush 35, 2) := by decide +kernel
theorem dX4_readAsk_88 : decode cX4_readAsk 88 = .ok (.if_icmp .eq 19, 3) := by decide +kernel
theorem dX4_readAsk_91 : decode cX4_readAsk 91 = .ok (.iload_n 2, 1) := by decide +kernel
theorem dX4_readAsk_92 : decode cX4_readAsk 92 = .ok (.iconst 1, 1) := by decide +kernel
theorem dX4_readAsk_93 : decode cX4_readAsk 93 = .ok (.if_icmp .eq 14, 3) := by decide +kernel
theorem dX4_readAsk_96 : decode cX4_readAsk 96 = .ok (.iload_n 2, 1) := by decide +kernel
theorem dX4_readAsk_97 : decode cX4_readAsk 97 = .ok (.iconst 2, 1) := by decide +kernel
theorem dX4_readAsk_98 : decode cX4_readAsk 98 = .ok (.if_icmp .eq 9, 3) := by decide +kernel
theorem dX4_readAsk_101 : decode cX4_readAsk 101 = .ok (.aload_n 0, 1) := by decide +kernel
theorem dX4_readAsk_102 : decode cX4_readAsk 102 = .ok (.iconst 1, 1) := by decide +kernel
theorem dX4_readAsk_103 : decode cX4_readAsk 103 = .ok (.invokevirtual 57, 3) := by decide +kernel
theorem dX4_readAsk_106 : decode cX4_readAsk 106 = .ok (.ireturn, 1) := by decide +kernel
theorem dX4_readAsk_107 : decode cX4_readAsk 107 = .ok (.aload_n 0, 1) := by decide +kernel
theorem dX4_readAsk_108 : decode cX4_readAsk 108 = .ok (.invokevirtual 37, 3) := by decide +kernel
theorem dX4_readAsk_111 : decode cX4_readAsk 111 = .ok (.aload_n 0, 1) := by decide +kernel
theorem dX4_readAsk_112 : decode cX4_readAsk 112 = .ok (.iconst 3, 1) := by decide +kernel
theorem dX4_readAsk_113 : decode cX4_readAsk 113 = .ok (.iload_n 1, 1) := by decide +kernel
theorem dX4_readAsk_114 : decode cX4_readAsk 114 = .ok (.invokevirtual 79, 3) := by decide +kernel
theorem dX4_readAsk_117 : decode cX4_readAsk 117 = .ok (.ifCond .ne 5, 3) := by decide +kernel
theorem dX4_readAsk_120 : decode cX4_readAsk 120 = .ok (.iconst 0, 1) := by decide +kernel
theorem dX4_readAsk_121 : decode cX4_readAsk 121 = .ok (.ireturn, 1) := by decide +kernel
theorem dX4_readAsk_122 : decode cX4_readAsk 122 = .ok (.aload_n 0, 1) := by decide +kernel
theorem dX4_readAsk_123 : decode cX4_readAsk 123 = .ok (.getfield 25, 3) := by decide +kernel
theorem dX4_readAsk_126 : decode cX4_readAsk 126 = .ok (.iload_n 2, 1) := by decide +kernel
theorem dX4_readAsk_127 : decode cX4_readAsk 127 = .ok (.iconst 0, 1) := by decide +kernel
theorem dX4_readAsk_128 : decode cX4_readAsk 128 = .ok (.invokevirtual 113, 3) := by decide +kernel
theorem dX4_readAsk_131 : decode cX4_readAsk 131 = .ok (.iconst 1, 1) := by decide +kernel
theorem dX4_readAsk_132 : decode cX4_readAsk 132 = .ok (.ireturn, 1) := by decide +kernel
theorem dX4_readOne_0 : decode cX4_readOne 0 = .ok (.aload_n 0, 1) := by decide +kernel
theorem dX4_readOne_1 : decode cX4_readOne 1 = .ok (.getfield 40, 3) := by decide +kernel
theorem dX4_readOne_4 : decode cX4_readOne 4 = .ok (.istore_n 2, 1) := by decide +kernel
theorem dX4_readOne_5 : decode cX4_readOne 5 = .ok (.iload_n 2, 1) := by decide +kernel
theorem dX4_readOne_6 : decode cX4_readOne 6 = .ok (.iconst 3, 1) := by decide +kernel
theorem dX4_readOne_7 : decode cX4_readOne 7 = .ok (.if_icmp .eq 10, 3) := by decide +kernel
theorem dX4_readOne_10 : decode cX4_readOne 10 = .ok (.iload_n 2, 1) := by decide +kernel
theorem dX4_readOne_11 : decode cX4_readOne 11 = .ok (.invokestatic 117, 3) := by decide +kernel
theorem dX4_readOne_14 : decode cX4_readOne 14 = .ok (.ifCond .eq 60, 3) := by decide +kernel
theorem dX4_readOne_17 : decode cX4_readOne 17 = .ok (.iload_n 2, 1) := by decide +kernel
theorem dX4_readOne_18 : decode cX4_readOne 18 = .ok (.iconst 3, 1) := by decide +kernel
theorem dX4_readOne_19 : decode cX4_readOne 19 = .ok (.if_icmp .ne 19, 3) := by decide +kernel
theorem dX4_readOne_22 : decode cX4_readOne 22 = .ok (.aload_n 0, 1) := by decide +kernel
theorem dX4_readOne_23 : decode cX4_readOne 23 = .ok (.getfield 95, 3) := by decide +kernel
theorem dX4_readOne_26 : decode cX4_readOne 26 = .ok (.sipush 9999, 3) := by decide +kernel
theorem dX4_readOne_29 : decode cX4_readOne 29 = .ok (.if_icmp .le 9, 3) := by decide +kernel
theorem dX4_readOne_32 : decode cX4_readOne 32 = .ok (.aload_n 0, 1) := by decide +kernel
theorem dX4_readOne_33 : decode cX4_readOne 33 = .ok (.iconst 2, 1) := by decide +kernel
theorem dX4_readOne_34 : decode cX4_readOne 34 = .ok (.invokevirtual 57, 3) := by decide +kernel
theorem dX4_readOne_37 : decode cX4_readOne 37 = .ok (.ireturn, 1) := by decide +kernel
theorem dX4_readOne_38 : decode cX4_readOne 38 = .ok (.iload_n 2, 1) := by decide +kernel
theorem dX4_readOne_39 : decode cX4_readOne 39 = .ok (.iconst 3, 1) := by decide +kernel
theorem dX4_readOne_40 : decode cX4_readOne 40 = .ok (.if_icmp .eq 16, 3) := by decide +kernel
theorem dX4_readOne_43 : decode cX4_readOne 43 = .ok (.aload_n 0, 1) := by decide +kernel
theorem dX4_readOne_44 : decode cX4_readOne 44 = .ok (.invokevirtual 120, 3) := by decide +kernel
theorem dX4_readOne_47 : decode cX4_readOne 47 = .ok (.ifCond .ne 9, 3) := by decide +kernel
theorem dX4_readOne_50 : decode cX4_readOne 50 = .ok (.aload_n 0, 1) := by decide +kernel
theorem dX4_readOne_51 : decode cX4_readOne 51 = .ok (.iconst 5, 1) := by decide +kernel
theorem dX4_readOne_52 : decode cX4_readOne 52 = .ok (.invokevirtual 57, 3) := by decide +kernel
theorem dX4_readOne_55 : decode cX4_readOne 55 = .ok (.ireturn, 1) := by decide +kernel
theorem dX4_readOne_56 : decode cX4_readOne 56 = .ok (.aload_n 0, 1) := by decide +kernel
theorem dX4_readOne_57 : decode cX4_readOne 57 = .ok (.getfield 25, 3) := by decide +kernel
theorem dX4_readOne_60 : decode cX4_readOne 60 = .ok (.iload_n 2, 1) := by decide +kernel
theorem dX4_readOne_61 : decode cX4_readOne 61 = .ok (.aload_n 0, 1) := by decide +kernel
theorem dX4_readOne_62 : decode cX4_readOne 62 = .ok (.getfield 95, 3) := by decide +kernel
theorem dX4_readOne_65 : decode cX4_readOne 65 = .ok (.invokevirtual 113, 3) := by decide +kernel
theorem dX4_readOne_68 : decode cX4_readOne 68 = .ok (.aload_n 0, 1) := by decide +kernel
theorem dX4_readOne_69 : decode cX4_readOne 69 = .ok (.invokevirtual 37, 3) := by decide +kernel
theorem dX4_readOne_72 : decode cX4_readOne 72 = .ok (.iconst 1, 1) := by decide +kernel
theorem dX4_readOne_73 : decode cX4_readOne 73 = .ok (.ireturn, 1) := by decide +kernel
theorem dX4_readOne_74 : decode cX4_readOne 74 = .ok (.iload_n 2, 1) := by decide +kernel
theorem dX4_readOne_75 : decode cX4_readOne 75 = .ok (.sipush 150, 3) := by decide +kernel
theorem dX4_readOne_78 : decode cX4_readOne 78 = .ok (.if_icmp .eq 10, 3) := by decide +kernel
theorem dX4_readOne_81 : decode cX4_readOne 81 = .ok (.iload_n 2, 1) := by decide +kernel
theorem dX4_readOne_82 : decode cX4_readOne 82 = .ok (.sipush 151, 3) := by decide +kernel
theorem dX4_readOne_85 : decode cX4_readOne 85 = .ok (.if_icmp .ne 54, 3) := by decide +kernel
theorem dX4_readOne_88 : decode cX4_readOne 88 = .ok (.aload_n 0, 1) := by decide +kernel
theorem dX4_readOne_89 : decode cX4_readOne 89 = .ok (.invokevirtual 37, 3) := by decide +kernel
theorem dX4_readOne_92 : decode cX4_readOne 92 = .ok (.aload_n 0, 1) := by decide +kernel
theorem dX4_readOne_93 : decode cX4_readOne 93 = .ok (.getfield 40, 3) := by decide +kernel
theorem dX4_readOne_96 : decode cX4_readOne 96 = .ok (.invokestatic 117, 3) := by decide +kernel
theorem dX4_readOne_99 : decode cX4_readOne 99 = .ok (.ifCond .ne 9, 3) := by decide +kernel
theorem dX4_readOne_102 : decode cX4_readOne 102 = .ok (.aload_n 0, 1) := by decide +kernel
theorem dX4_readOne_103 : decode cX4_readOne 103 = .ok (.iconst 1, 1) := by decide +kernel
theorem dX4_readOne_104 : decode cX4_readOne 104 = .ok (.invokevirtual 57, 3) := by decide +kernel
theorem dX4_readOne_107 : decode cX4_readOne 107 = .ok (.ireturn, 1) := by decide +kernel
theorem dX4_readOne_108 : decode cX4_readOne 108 = .ok (.aload_n 0, 1) := by decide +kernel
theorem dX4_readOne_109 : decode cX4_readOne 109 = .ok (.invokevirtual 123, 3) := by decide +kernel
theorem dX4_readOne_112 : decode cX4_readOne 112 = .ok (.ifCond .ne 9, 3) := by decide +kernel
theorem dX4_readOne_115 : decode cX4_readOne 115 = .ok (.aload_n 0, 1) := by decide +kernel
theorem dX4_readOne_116 : decode cX4_readOne 116 = .ok (.iconst 5, 1) := by decide +kernel
theorem dX4_readOne_117 : decode cX4_readOne 117 = .ok (.invokevirtual 57, 3) := by decide +kernel
theorem dX4_readOne_120 : decode cX4_readOne 120 = .ok (.ireturn, 1) := by decide +kernel
theorem dX4_readOne_121 : decode cX4_readOne 121 = .ok (.aload_n 0, 1) := by decide +kernel
theorem dX4_readOne_122 : decode cX4_readOne 122 = .ok (.getfield 25, 3) := by decide +kernel
theorem dX4_readOne_125 : decode cX4_readOne 125 = .ok (.iload_n 2, 1) := by decide +kernel
theorem dX4_readOne_126 : decode cX4_readOne 126 = .ok (.aload_n 0, 1) := by decide +kernel
theorem dX4_readOne_127 : decode cX4_readOne 127 = .ok (.getfield 40, 3) := by decide +kernel
theorem dX4_readOne_130 : decode cX4_readOne 130 = .ok (.invokevirtual 113, 3) := by decide +kernel
theorem dX4_readOne_133 : decode cX4_readOne 133 = .ok (.aload_n 0, 1) := by decide +kernel
theorem dX4_readOne_134 : decode cX4_readOne 134 = .ok (.invokevirtual 37, 3) := by decide +kernel
theorem dX4_readOne_137 : decode cX4_readOne 137 = .ok (.iconst 1, 1) := by decide +kernel
theorem dX4_readOne_138 : decode cX4_readOne 138 = .ok (.ireturn, 1) := by decide +kernel
theorem dX4_readOne_139 : decode cX4_readOne 139 = .ok (.iload_n 2, 1) := by decide +kernel
theorem dX4_readOne_140 : decode cX4_readOne 140 = .ok (.bipush 40, 2) := by decide +kernel
theorem dX4_readOne_142 : decode cX4_readOne 142 = .ok (.if_icmp .eq 15, 3) := by decide +kernel
theorem dX4_readOne_145 : decode cX4_readOne 145 = .ok (.iload_n 2, 1) := by decide +kernel
theorem dX4_readOne_146 : decode cX4_readOne 146 = .ok (.bipush 45, 2) := by decide +kernel
theorem dX4_readOne_148 : decode cX4_readOne 148 = .ok (.if_icmp .eq 9, 3) := by decide +kernel
theorem dX4_readOne_151 : decode cX4_readOne 151 = .ok (.aload_n 0, 1) := by decide +kernel
theorem dX4_readOne_152 : decode cX4_readOne 152 = .ok (.iconst 1, 1) := by decide +kernel
theorem dX4_readOne_153 : decode cX4_readOne 153 = .ok (.invokevirtual 57, 3) := by decide +kernel
theorem dX4_readOne_156 : decode cX4_readOne 156 = .ok (.ireturn, 1) := by decide +kernel
theorem dX4_readOne_157 : decode cX4_readOne 157 = .ok (.iload_n 1, 1) := by decide +kernel
theorem dX4_readOne_158 : decode cX4_readOne 158 = .ok (.bipush 8, 2) := by decide +kernel
theorem dX4_readOne_160 : decode cX4_readOne 160 = .ok (.if_icmp .lt 9, 3) := by decide +kernel
theorem dX4_readOne_163 : decode cX4_readOne 163 = .ok (.aload_n 0, 1) := by decide +kernel
theorem dX4_readOne_164 : decode cX4_readOne 164 = .ok (.iconst 3, 1) := by decide +kernel
theorem dX4_readOne_165 : decode cX4_readOne 165 = .ok (.invokevirtual 57, 3) := by decide +kernel
theorem dX4_readOne_168 : decode cX4_readOne 168 = .ok (.ireturn, 1) := by decide +kernel
theorem dX4_readOne_169 : decode cX4_readOne 169 = .ok (.aload_n 0, 1) := by decide +kernel
theorem dX4_readOne_170 : decode cX4_readOne 170 = .ok (.invokevirtual 37, 3) := by decide +kernel
theorem dX4_readOne_173 : decode cX4_readOne 173 = .ok (.iload_n 2, 1) := by decide +kernel
theorem dX4_readOne_174 : decode cX4_readOne 174 = .ok (.bipush 45, 2) := by decide +kernel
theorem dX4_readOne_176 : decode cX4_readOne 176 = .ok (.if_icmp .ne 13, 3) := by decide +kernel
theorem dX4_readOne_179 : decode cX4_readOne 179 = .ok (.aload_n 0, 1) := by decide +kernel
theorem dX4_readOne_180 : decode cX4_readOne 180 = .ok (.iload_n 1, 1) := by decide +kernel
theorem dX4_readOne_181 : decode cX4_readOne 181 = .ok (.iconst 1, 1) := by decide +kernel
theorem dX4_readOne_182 : decode cX4_readOne 182 = .ok (.iadd, 1) := by decide +kernel
theorem dX4_readOne_183 : decode cX4_readOne 183 = .ok (.invokevirtual 126, 3) := by decide +kernel
theorem dX4_readOne_186 : decode cX4_readOne 186 = .ok (.goto 10, 3) := by decide +kernel
theorem dX4_readOne_189 : decode cX4_readOne 189 = .ok (.aload_n 0, 1) := by decide +kernel
theorem dX4_readOne_190 : decode cX4_readOne 190 = .ok (.iload_n 1, 1) := by decide +kernel
theorem dX4_readOne_191 : decode cX4_readOne 191 = .ok (.iconst 1, 1) := by decide +kernel
theorem dX4_readOne_192 : decode cX4_readOne 192 = .ok (.iadd, 1) := by decide +kernel
theorem dX4_readOne_193 : decode cX4_readOne 193 = .ok (.invokevirtual 129, 3) := by decide +kernel
theorem dX4_readOne_196 : decode cX4_readOne 196 = .ok (.ireturn, 1) := by decide +kernel
theorem dX4_readMinus_0 : decode cX4_readMinus 0 = .ok (.aload_n 0, 1) := by decide +kernel
theorem dX4_readMinus_1 : decode cX4_readMinus 1 = .ok (.iload_n 1, 1) := by decide +kernel
theorem dX4_readMinus_2 : decode cX4_readMinus 2 = .ok (.invokevirtual 107, 3) := by decide +kernel
theorem dX4_readMinus_5 : decode cX4_readMinus 5 = .ok (.ifCond .ne 5, 3) := by decide +kernel
theorem dX4_readMinus_8 : decode cX4_readMinus 8 = .ok (.iconst 0, 1) := by decide +kernel
theorem dX4_readMinus_9 : decode cX4_readMinus 9 = .ok (.ireturn, 1) := by decide +kernel
theorem dX4_readMinus_10 : decode cX4_readMinus 10 = .ok (.aload_n 0, 1) := by decide +kernel
theorem dX4_readMinus_11 : decode cX4_readMinus 11 = .ok (.getfield 25, 3) := by decide +kernel
theorem dX4_readMinus_14 : decode cX4_readMinus 14 = .ok (.bipush 6, 2) := by decide +kernel
theorem dX4_readMinus_16 : decode cX4_readMinus 16 = .ok (.iconst 0, 1) := by decide +kernel
theorem dX4_readMinus_17 : decode cX4_readMinus 17 = .ok (.invokevirtual 113, 3) := by decide +kernel
theorem dX4_readMinus_20 : decode cX4_readMinus 20 = .ok (.iconst 1, 1) := by decide +kernel
theorem dX4_readMinus_21 : decode cX4_readMinus 21 = .ok (.ireturn, 1) := by decide +kernel
theorem dX4_readParted_0 : decode cX4_readParted 0 = .ok (.aload_n 0, 1) := by decide +kernel
theorem dX4_readParted_1 : decode cX4_readParted 1 = .ok (.iconst 3, 1) := by decide +kernel
theorem dX4_readParted_2 : decode cX4_readParted 2 = .ok (.iload_n 1, 1) := by decide +kernel
theorem dX4_readParted_3 : decode cX4_readParted 3 = .ok (.invokevirtual 79, 3) := by decide +kernel
theorem dX4_readParted_6 : decode cX4_readParted 6 = .ok (.ifCond .ne 5, 3) := by decide +kernel
theorem dX4_readParted_9 : decode cX4_readParted 9 = .ok (.iconst 0, 1) := by decide +kernel
theorem dX4_readParted_10 : decode cX4_readParted 10 = .ok (.ireturn, 1) := by decide +kernel
theorem dX4_readParted_11 : decode cX4_readParted 11 = .ok (.aload_n 0, 1) := by decide +kernel
theorem dX4_readParted_12 : decode cX4_readParted 12 = .ok (.getfield 40, 3) := by decide +kernel
theorem dX4_readParted_15 : decode cX4_readParted 15 = .ok (.bipush 41, 2) := by decide +kernel
theorem dX4_readParted_17 : decode cX4_readParted 17 = .ok (.if_icmp .eq 9, 3) := by decide +kernel
theorem dX4_readParted_20 : decode cX4_readParted 20 = .ok (.aload_n 0, 1) := by decide +kernel
theorem dX4_readParted_21 : decode cX4_readParted 21 = .ok (.iconst 1, 1) := by decide +kernel
theorem dX4_readParted_22 : decode cX4_readParted 22 = .ok (.invokevirtual 57, 3) := by decide +kernel
theorem dX4_readParted_25 : decode cX4_readParted 25 = .ok (.ireturn, 1) := by decide +kernel
theorem dX4_readParted_26 : decode cX4_readParted 26 = .ok (.aload_n 0, 1) := by decide +kernel
theorem dX4_readParted_27 : decode cX4_readParted 27 = .ok (.invokevirtual 37, 3) := by decide +kernel
theorem dX4_readParted_30 : decode cX4_readParted 30 = .ok (.iconst 1, 1) := by decide +kernel
theorem dX4_readParted_31 : decode cX4_readParted 31 = .ok (.ireturn, 1) := by decide +kernel
theorem dX4_isName_0 : decode cX4_isName 0 = .ok (.iload_n 0, 1) := by decide +kernel
theorem dX4_isName_1 : decode cX4_isName 1 = .ok (.sipush 135, 3) := by decide +kernel
theorem dX4_isName_4 : decode cX4_isName 4 = .ok (.if_icmp .eq 59, 3) := by decide +kernel
theorem dX4_isName_7 : decode cX4_isName 7 = .ok (.iload_n 0, 1) := by decide +kernel
theorem dX4_isName_8 : decode cX4_isName 8 = .ok (.sipush 133, 3) := by decide +kernel
theorem dX4_isName_11 : decode cX4_isName 11 = .ok (.if_icmp .eq 52, 3) := by decide +kernel
theorem dX4_isName_14 : decode cX4_isName 14 = .ok (.iload_n 0, 1) := by decide +kernel
theorem dX4_isName_15 : decode cX4_isName 15 = .ok (.sipush 140, 3) := by decide +kernel
theorem dX4_isName_18 : decode cX4_isName 18 = .ok (.if_icmp .eq 45, 3) := by decide +kernel
theorem dX4_isName_21 : decode cX4_isName 21 = .ok (.iload_n 0, 1) := by decide +kernel
theorem dX4_isName_22 : decode cX4_isName 22 = .ok (.sipush 141, 3) := by decide +kernel
theorem dX4_isName_25 : decode cX4_isName 25 = .ok (.if_icmp .eq 38, 3) := by decide +kernel
theorem dX4_isName_28 : decode cX4_isName 28 = .ok (.iload_n 0, 1) := by decide +kernel
theorem dX4_isName_29 : decode cX4_isName 29 = .ok (.sipush 142, 3) := by decide +kernel
theorem dX4_isName_32 : decode cX4_isName 32 = .ok (.if_icmp .eq 31, 3) := by decide +kernel
theorem dX4_isName_35 : decode cX4_isName 35 = .ok (.iload_n 0, 1) := by decide +kernel
theorem dX4_isName_36 : decode cX4_isName 36 = .ok (.sipush 146, 3) := by decide +kernel
theorem dX4_isName_39 : decode cX4_isName 39 = .ok (.if_icmp .eq 24, 3) := by decide +kernel
theorem dX4_isName_42 : decode cX4_isName 42 = .ok (.iload_n 0, 1) := by decide +kernel
theorem dX4_isName_43 : decode cX4_isName 43 = .ok (.sipush 147, 3) := by decide +kernel
theorem dX4_isName_46 : decode cX4_isName 46 = .ok (.if_icmp .eq 17, 3) := by decide +kernel
theorem dX4_isName_49 : decode cX4_isName 49 = .ok (.iload_n 0, 1) := by decide +kernel
theorem dX4_isName_50 : decode cX4_isName 50 = .ok (.sipush 148, 3) := by decide +kernel
theorem dX4_isName_53 : decode cX4_isName 53 = .ok (.if_icmp .eq 10, 3) := by decide +kernel
theorem dX4_isName_56 : decode cX4_isName 56 = .ok (.iload_n 0, 1) := by decide +kernel
theorem dX4_isName_57 : decode cX4_isName 57 = .ok (.sipush 149, 3) := by decide +kernel
theorem dX4_isName_60 : decode cX4_isName 60 = .ok (.if_icmp .ne 7, 3) := by decide +kernel
theorem dX4_isName_63 : decode cX4_isName 63 = .ok (.iconst 1, 1) := by decide +kernel
theorem dX4_isName_64 : decode cX4_isName 64 = .ok (.goto 4, 3) := by decide +kernel
theorem dX4_isName_67 : decode cX4_isName 67 = .ok (.iconst 0, 1) := by decide +kernel
theorem dX4_isName_68 : decode cX4_isName 68 = .ok (.ireturn, 1) := by decide +kernel
theorem dX4_isNameOfLaw_0 : decode cX4_isNameOfLaw 0 = .ok (.aload_n 0, 1) := by decide +kernel
theorem dX4_isNameOfLaw_1 : decode cX4_isNameOfLaw 1 = .ok (.getfield 40, 3) := by decide +kernel
theorem dX4_isNameOfLaw_4 : decode cX4_isNameOfLaw 4 = .ok (.sipush 148, 3) := by decide +kernel
theorem dX4_isNameOfLaw_7 : decode cX4_isNameOfLaw 7 = .ok (.if_icmp .ne 17, 3) := by decide +kernel
theorem dX4_isNameOfLaw_10 : decode cX4_isNameOfLaw 10 = .ok (.aload_n 0, 1) := by decide +kernel
theorem dX4_isNameOfLaw_11 : decode cX4_isNameOfLaw 11 = .ok (.getfield 50, 3) := by decide +kernel
theorem dX4_isNameOfLaw_14 : decode cX4_isNameOfLaw 14 = .ok (.iconst 3, 1) := by decide +kernel
theorem dX4_isNameOfLaw_15 : decode cX4_isNameOfLaw 15 = .ok (.if_icmp .eq 7, 3) := by decide +kernel
theorem dX4_isNameOfLaw_18 : decode cX4_isNameOfLaw 18 = .ok (.iconst 1, 1) := by decide +kernel
theorem dX4_isNameOfLaw_19 : decode cX4_isNameOfLaw 19 = .ok (.goto 4, 3) := by decide +kernel
theorem dX4_isNameOfLaw_22 : decode cX4_isNameOfLaw 22 = .ok (.iconst 0, 1) := by decide +kernel
theorem dX4_isNameOfLaw_23 : decode cX4_isNameOfLaw 23 = .ok (.ireturn, 1) := by decide +kernel
theorem dX4_isNameOfLaw_24 : decode cX4_isNameOfLaw 24 = .ok (.aload_n 0, 1) := by decide +kernel
theorem dX4_isNameOfLaw_25 : decode cX4_isNameOfLaw 25 = .ok (.getfield 40, 3) := by decide +kernel
theorem dX4_isNameOfLaw_28 : decode cX4_isNameOfLaw 28 = .ok (.sipush 149, 3) := by decide +kernel
theorem dX4_isNameOfLaw_31 : decode cX4_isNameOfLaw 31 = .ok (.if_icmp .ne 11, 3) := by decide +kernel
theorem dX4_isNameOfLaw_34 : decode cX4_isNameOfLaw 34 = .ok (.aload_n 0, 1) := by decide +kernel
theorem dX4_isNameOfLaw_35 : decode cX4_isNameOfLaw 35 = .ok (.getfield 50, 3) := by decide +kernel
theorem dX4_isNameOfLaw_38 : decode cX4_isNameOfLaw 38 = .ok (.iconst 1, 1) := by decide +kernel
theorem dX4_isNameOfLaw_39 : decode cX4_isNameOfLaw 39 = .ok (.if_icmp .ne 7, 3) := by decide +kernel
theorem dX4_isNameOfLaw_42 : decode cX4_isNameOfLaw 42 = .ok (.iconst 1, 1) := by decide +kernel
theorem dX4_isNameOfLaw_43 : decode cX4_isNameOfLaw 43 = .ok (.goto 4, 3) := by decide +kernel
theorem dX4_isNameOfLaw_46 : decode cX4_isNameOfLaw 46 = .ok (.iconst 0, 1) := by decide +kernel
theorem dX4_isNameOfLaw_47 : decode cX4_isNameOfLaw 47 = .ok (.ireturn, 1) := by decide +kernel
theorem dX4_isAskedBeside_0 : decode cX4_isAskedBeside 0 = .ok (.aload_n 0, 1) := by decide +kernel
theorem dX4_isAskedBeside_1 : decode cX4_isAskedBeside 1 = .ok (.getfield 40, 3) := by decide +kernel
theorem dX4_isAskedBeside_4 : decode cX4_isAskedBeside 4 = .ok (.sipush 135, 3) := by decide +kernel
theorem dX4_isAskedBeside_7 : decode cX4_isAskedBeside 7 = .ok (.if_icmp .eq 37, 3) := by decide +kernel
theorem dX4_isAskedBeside_10 : decode cX4_isAskedBeside 10 = .ok (.aload_n 0, 1) := by decide +kernel
theorem dX4_isAskedBeside_11 : decode cX4_isAskedBeside 11 = .ok (.getfield 40, 3) := by decide +kernel
theorem dX4_isAskedBeside_14 : decode cX4_isAskedBeside 14 = .ok (.sipush 133, 3) := by decide +kernel
theorem dX4_isAskedBeside_17 : decode cX4_isAskedBeside 17 = .ok (.if_icmp .eq 27, 3) := by decide +kernel
theorem dX4_isAskedBeside_20 : decode cX4_isAskedBeside 20 = .ok (.aload_n 0, 1) := by decide +kernel
theorem dX4_isAskedBeside_21 : decode cX4_isAskedBeside 21 = .ok (.getfield 40, 3) := by decide +kernel
theorem dX4_isAskedBeside_24 : decode cX4_isAskedBeside 24 = .ok (.sipush 148, 3) := by decide +kernel
theorem dX4_isAskedBeside_27 : decode cX4_isAskedBeside 27 = .ok (.if_icmp .eq 17, 3) := by decide +kernel
theorem dX4_isAskedBeside_30 : decode cX4_isAskedBeside 30 = .ok (.aload_n 0, 1) := by decide +kernel
theorem dX4_isAskedBeside_31 : decode cX4_isAskedBeside 31 = .ok (.getfield 40, 3) := by decide +kernel
theorem dX4_isAskedBeside_34 : decode cX4_isAskedBeside 34 = .ok (.sipush 149, 3) := by decide +kernel
theorem dX4_isAskedBeside_37 : decode cX4_isAskedBeside 37 = .ok (.if_icmp .eq 7, 3) := by decide +kernel
theorem dX4_isAskedBeside_40 : decode cX4_isAskedBeside 40 = .ok (.iconst 1, 1) := by decide +kernel
theorem dX4_isAskedBeside_41 : decode cX4_isAskedBeside 41 = .ok (.goto 4, 3) := by decide +kernel
theorem dX4_isAskedBeside_44 : decode cX4_isAskedBeside 44 = .ok (.iconst 0, 1) := by decide +kernel
theorem dX4_isAskedBeside_45 : decode cX4_isAskedBeside 45 = .ok (.ireturn, 1) := by decide +kernel
theorem dX4_advance_0 : decode cX4_advance 0 = .ok (.aload_n 0, 1) := by decide +kernel
theorem dX4_advance_1 : decode cX4_advance 1 = .ok (.getfield 34, 3) := by decide +kernel
theorem dX4_advance_4 : decode cX4_advance 4 = .ok (.aload_n 0, 1) := by decide +kernel
theorem dX4_advance_5 : decode cX4_advance 5 = .ok (.getfield 22, 3) := by decide +kernel
theorem dX4_advance_8 : decode cX4_advance 8 = .ok (.if_icmp .ge 44, 3) := by decide +kernel
theorem dX4_advance_11 : decode cX4_advance 11 = .ok (.aload_n 0, 1) := by decide +kernel
theorem dX4_advance_12 : decode cX4_advance 12 = .ok (.getfield 9, 3) := by decide +kernel
theorem dX4_advance_15 : decode cX4_advance 15 = .ok (.aload_n 0, 1) := by decide +kernel
theorem dX4_advance_16 : decode cX4_advance 16 = .ok (.getfield 34, 3) := by decide +kernel
theorem dX4_advance_19 : decode cX4_advance 19 = .ok (.iaload, 1) := by decide +kernel
theorem dX4_advance_20 : decode cX4_advance 20 = .ok (.bipush 32, 2) := by decide +kernel
theorem dX4_advance_22 : decode cX4_advance 22 = .ok (.if_icmp .eq 17, 3) := by decide +kernel
theorem dX4_advance_25 : decode cX4_advance 25 = .ok (.aload_n 0, 1) := by decide +kernel
theorem dX4_advance_26 : decode cX4_advance 26 = .ok (.getfield 9, 3) := by decide +kernel
theorem dX4_advance_29 : decode cX4_advance 29 = .ok (.aload_n 0, 1) := by decide +kernel
theorem dX4_advance_30 : decode cX4_advance 30 = .ok (.getfield 34, 3) := by decide +kernel
theorem dX4_advance_33 : decode cX4_advance 33 = .ok (.iaload, 1) := by decide +kernel
theorem dX4_advance_34 : decode cX4_advance 34 = .ok (.bipush 10, 2) := by decide +kernel
theorem dX4_advance_36 : decode cX4_advance 36 = .ok (.if_icmp .ne 16, 3) := by decide +kernel
theorem dX4_advance_39 : decode cX4_advance 39 = .ok (.aload_n 0, 1) := by decide +kernel
theorem dX4_advance_40 : decode cX4_advance 40 = .ok (.dup, 1) := by decide +kernel
theorem dX4_advance_41 : decode cX4_advance 41 = .ok (.getfield 34, 3) := by decide +kernel
theorem dX4_advance_44 : decode cX4_advance 44 = .ok (.iconst 1, 1) := by decide +kernel
theorem dX4_advance_45 : decode cX4_advance 45 = .ok (.iadd, 1) := by decide +kernel
theorem dX4_advance_46 : decode cX4_advance 46 = .ok (.putfield 34, 3) := by decide +kernel
theorem dX4_advance_49 : decode cX4_advance 49 = .ok (.goto (-49), 3) := by decide +kernel
theorem dX4_advance_52 : decode cX4_advance 52 = .ok (.aload_n 0, 1) := by decide +kernel
theorem dX4_advance_53 : decode cX4_advance 53 = .ok (.aload_n 0, 1) := by decide +kernel
theorem dX4_advance_54 : decode cX4_advance 54 = .ok (.getfield 34, 3) := by decide +kernel
theorem dX4_advance_57 : decode cX4_advance 57 = .ok (.putfield 47, 3) := by decide +kernel
theorem dX4_advance_60 : decode cX4_advance 60 = .ok (.aload_n 0, 1) := by decide +kernel
theorem dX4_advance_61 : decode cX4_advance 61 = .ok (.iconst 0, 1) := by decide +kernel
theorem dX4_advance_62 : decode cX4_advance 62 = .ok (.putfield 95, 3) := by decide +kernel
theorem dX4_advance_65 : decode cX4_advance 65 = .ok (.aload_n 0, 1) := by decide +kernel
theorem dX4_advance_66 : decode cX4_advance 66 = .ok (.getfield 34, 3) := by decide +kernel
theorem dX4_advance_69 : decode cX4_advance 69 = .ok (.aload_n 0, 1) := by decide +kernel
theorem dX4_advance_70 : decode cX4_advance 70 = .ok (.getfield 22, 3) := by decide +kernel
theorem dX4_advance_73 : decode cX4_advance 73 = .ok (.if_icmp .lt 11, 3) := by decide +kernel
theorem dX4_advance_76 : decode cX4_advance 76 = .ok (.aload_n 0, 1) := by decide +kernel
theorem dX4_advance_77 : decode cX4_advance 77 = .ok (.iconst 4, 1) := by decide +kernel
theorem dX4_advance_78 : decode cX4_advance 78 = .ok (.putfield 40, 3) := by decide +kernel
theorem dX4_advance_81 : decode cX4_advance 81 = .ok (.goto 207, 3) := by decide +kernel
theorem dX4_advance_84 : decode cX4_advance 84 = .ok (.aload_n 0, 1) := by decide +kernel
theorem dX4_advance_85 : decode cX4_advance 85 = .ok (.getfield 9, 3) := by decide +kernel
theorem dX4_advance_88 : decode cX4_advance 88 = .ok (.aload_n 0, 1) := by decide +kernel
theorem dX4_advance_89 : decode cX4_advance 89 = .ok (.getfield 34, 3) := by decide +kernel
theorem dX4_advance_92 : decode cX4_advance 92 = .ok (.iaload, 1) := by decide +kernel
theorem dX4_advance_93 : decode cX4_advance 93 = .ok (.invokestatic 132, 3) := by decide +kernel
theorem dX4_advance_96 : decode cX4_advance 96 = .ok (.ifCond .eq 61, 3) := by decide +kernel
theorem dX4_advance_99 : decode cX4_advance 99 = .ok (.aload_n 0, 1) := by decide +kernel
theorem dX4_advance_100 : decode cX4_advance 100 = .ok (.getfield 34, 3) := by decide +kernel
theorem dX4_advance_103 : decode cX4_advance 103 = .ok (.aload_n 0, 1) := by decide +kernel
theorem dX4_advance_104 : decode cX4_advance 104 = .ok (.getfield 22, 3) := by decide +kernel
theorem dX4_advance_107 : decode cX4_advance 107 = .ok (.if_icmp .ge 31, 3) := by decide +kernel
theorem dX4_advance_110 : decode cX4_advance 110 = .ok (.aload_n 0, 1) := by decide +kernel
theorem dX4_advance_111 : decode cX4_advance 111 = .ok (.getfield 9, 3) := by decide +kernel
theorem dX4_advance_114 : decode cX4_advance 114 = .ok (.aload_n 0, 1) := by decide +kernel
theorem dX4_advance_115 : decode cX4_advance 115 = .ok (.getfield 34, 3) := by decide +kernel
theorem dX4_advance_118 : decode cX4_advance 118 = .ok (.iaload, 1) := by decide +kernel
theorem dX4_advance_119 : decode cX4_advance 119 = .ok (.invokestatic 132, 3) := by decide +kernel
theorem dX4_advance_122 : decode cX4_advance 122 = .ok (.ifCond .eq 16, 3) := by decide +kernel
theorem dX4_advance_125 : decode cX4_advance 125 = .ok (.aload_n 0, 1) := by decide +kernel
theorem dX4_advance_126 : decode cX4_advance 126 = .ok (.dup, 1) := by decide +kernel
theorem dX4_advance_127 : decode cX4_advance 127 = .ok (.getfield 34, 3) := by decide +kernel
theorem dX4_advance_130 : decode cX4_advance 130 = .ok (.iconst 1, 1) := by decide +kernel
theorem dX4_advance_131 : decode cX4_advance 131 = .ok (.iadd, 1) := by decide +kernel
theorem dX4_advance_132 : decode cX4_advance 132 = .ok (.putfield 34, 3) := by decide +kernel
theorem dX4_advance_135 : decode cX4_advance 135 = .ok (.goto (-36), 3) := by decide +kernel
theorem dX4_advance_138 : decode cX4_advance 138 = .ok (.aload_n 0, 1) := by decide +kernel
theorem dX4_advance_139 : decode cX4_advance 139 = .ok (.aload_n 0, 1) := by decide +kernel
theorem dX4_advance_140 : decode cX4_advance 140 = .ok (.aload_n 0, 1) := by decide +kernel
theorem dX4_advance_141 : decode cX4_advance 141 = .ok (.getfield 47, 3) := by decide +kernel
theorem dX4_advance_144 : decode cX4_advance 144 = .ok (.aload_n 0, 1) := by decide +kernel
theorem dX4_advance_145 : decode cX4_advance 145 = .ok (.getfield 34, 3) := by decide +kernel
theorem dX4_advance_148 : decode cX4_advance 148 = .ok (.invokevirtual 135, 3) := by decide +kernel
theorem dX4_advance_151 : decode cX4_advance 151 = .ok (.putfield 40, 3) := by decide +kernel
theorem dX4_advance_154 : decode cX4_advance 154 = .ok (.goto 134, 3) := by decide +kernel
theorem dX4_advance_157 : decode cX4_advance 157 = .ok (.aload_n 0, 1) := by decide +kernel
theorem dX4_advance_158 : decode cX4_advance 158 = .ok (.getfield 9, 3) := by decide +kernel
theorem dX4_advance_161 : decode cX4_advance 161 = .ok (.aload_n 0, 1) := by decide +kernel
theorem dX4_advance_162 : decode cX4_advance 162 = .ok (.getfield 34, 3) := by decide +kernel
theorem dX4_advance_165 : decode cX4_advance 165 = .ok (.iaload, 1) := by decide +kernel
theorem dX4_advance_166 : decode cX4_advance 166 = .ok (.invokestatic 139, 3) := by decide +kernel
theorem dX4_advance_169 : decode cX4_advance 169 = .ok (.ifCond .eq 77, 3) := by decide +kernel
theorem dX4_advance_172 : decode cX4_advance 172 = .ok (.aload_n 0, 1) := by decide +kernel
theorem dX4_advance_173 : decode cX4_advance 173 = .ok (.iconst 3, 1) := by decide +kernel
theorem dX4_advance_174 : decode cX4_advance 174 = .ok (.putfield 40, 3) := by decide +kernel
theorem dX4_advance_177 : decode cX4_advance 177 = .ok (.aload_n 0, 1) := by decide +kernel
theorem dX4_advance_178 : decode cX4_advance 178 = .ok (.getfield 34, 3) := by decide +kernel
theorem dX4_advance_181 : decode cX4_advance 181 = .ok (.aload_n 0, 1) := by decide +kernel
theorem dX4_advance_182 : decode cX4_advance 182 = .ok (.getfield 22, 3) := by decide +kernel
theorem dX4_advance_185 : decode cX4_advance 185 = .ok (.if_icmp .ge 103, 3) := by decide +kernel
theorem dX4_advance_188 : decode cX4_advance 188 = .ok (.aload_n 0, 1) := by decide +kernel
theorem dX4_advance_189 : decode cX4_advance 189 = .ok (.getfield 9, 3) := by decide +kernel
theorem dX4_advance_192 : decode cX4_advance 192 = .ok (.aload_n 0, 1) := by decide +kernel
theorem dX4_advance_193 : decode cX4_advance 193 = .ok (.getfield 34, 3) := by decide +kernel
theorem dX4_advance_196 : decode cX4_advance 196 = .ok (.iaload, 1) := by decide +kernel
theorem dX4_advance_197 : decode cX4_advance 197 = .ok (.invokestatic 139, 3) := by decide +kernel
theorem dX4_advance_200 : decode cX4_advance 200 = .ok (.ifCond .eq 88, 3) := by decide +kernel
theorem dX4_advance_203 : decode cX4_advance 203 = .ok (.aload_n 0, 1) := by decide +kernel
theorem dX4_advance_204 : decode cX4_advance 204 = .ok (.sipush 10000, 3) := by decide +kernel
theorem dX4_advance_207 : decode cX4_advance 207 = .ok (.aload_n 0, 1) := by decide +kernel
theorem dX4_advance_208 : decode cX4_advance 208 = .ok (.getfield 95, 3) := by decide +kernel
theorem dX4_advance_211 : decode cX4_advance 211 = .ok (.bipush 10, 2) := by decide +kernel
theorem dX4_advance_213 : decode cX4_advance 213 = .ok (.imul, 1) := by decide +kernel
theorem dX4_advance_214 : decode cX4_advance 214 = .ok (.aload_n 0, 1) := by decide +kernel
theorem dX4_advance_215 : decode cX4_advance 215 = .ok (.getfield 9, 3) := by decide +kernel
theorem dX4_advance_218 : decode cX4_advance 218 = .ok (.aload_n 0, 1) := by decide +kernel
theorem dX4_advance_219 : decode cX4_advance 219 = .ok (.getfield 34, 3) := by decide +kernel
theorem dX4_advance_222 : decode cX4_advance 222 = .ok (.iaload, 1) := by decide +kernel
theorem dX4_advance_223 : decode cX4_advance 223 = .ok (.iadd, 1) := by decide +kernel
theorem dX4_advance_224 : decode cX4_advance 224 = .ok (.bipush 48, 2) := by decide +kernel
theorem dX4_advance_226 : decode cX4_advance 226 = .ok (.isub, 1) := by decide +kernel
theorem dX4_advance_227 : decode cX4_advance 227 = .ok (.invokestatic 142, 3) := by decide +kernel
theorem dX4_advance_230 : decode cX4_advance 230 = .ok (.putfield 95, 3) := by decide +kernel
theorem dX4_advance_233 : decode cX4_advance 233 = .ok (.aload_n 0, 1) := by decide +kernel
theorem dX4_advance_234 : decode cX4_advance 234 = .ok (.dup, 1) := by decide +kernel
theorem dX4_advance_235 : decode cX4_advance 235 = .ok (.getfield 34, 3) := by decide +kernel
theorem dX4_advance_238 : decode cX4_advance 238 = .ok (.iconst 1, 1) := by decide +kernel
theorem dX4_advance_239 : decode cX4_advance 239 = .ok (.iadd, 1) := by decide +kernel
theorem dX4_advance_240 : decode cX4_advance 240 = .ok (.putfield 34, 3) := by decide +kernel
theorem dX4_advance_243 : decode cX4_advance 243 = .ok (.goto (-66), 3) := by decide +kernel
theorem dX4_advance_246 : decode cX4_advance 246 = .ok (.aload_n 0, 1) := by decide +kernel
theorem dX4_advance_247 : decode cX4_advance 247 = .ok (.aload_n 0, 1) := by decide +kernel
theorem dX4_advance_248 : decode cX4_advance 248 = .ok (.aload_n 0, 1) := by decide +kernel
theorem dX4_advance_249 : decode cX4_advance 249 = .ok (.getfield 34, 3) := by decide +kernel
theorem dX4_advance_252 : decode cX4_advance 252 = .ok (.invokevirtual 147, 3) := by decide +kernel
theorem dX4_advance_255 : decode cX4_advance 255 = .ok (.putfield 40, 3) := by decide +kernel
theorem dX4_advance_258 : decode cX4_advance 258 = .ok (.aload_n 0, 1) := by decide +kernel
theorem dX4_advance_259 : decode cX4_advance 259 = .ok (.dup, 1) := by decide +kernel
theorem dX4_advance_260 : decode cX4_advance 260 = .ok (.getfield 34, 3) := by decide +kernel
theorem dX4_advance_263 : decode cX4_advance 263 = .ok (.aload_n 0, 1) := by decide +kernel
theorem dX4_advance_264 : decode cX4_advance 264 = .ok (.getfield 40, 3) := by decide +kernel
theorem dX4_advance_267 : decode cX4_advance 267 = .ok (.iconst 1, 1) := by decide +kernel
theorem dX4_advance_268 : decode cX4_advance 268 = .ok (.if_icmp .eq 11, 3) := by decide +kernel
theorem dX4_advance_271 : decode cX4_advance 271 = .ok (.aload_n 0, 1) := by decide +kernel
theorem dX4_advance_272 : decode cX4_advance 272 = .ok (.getfield 40, 3) := by decide +kernel
theorem dX4_advance_275 : decode cX4_advance 275 = .ok (.iconst 2, 1) := by decide +kernel
theorem dX4_advance_276 : decode cX4_advance 276 = .ok (.if_icmp .ne 7, 3) := by decide +kernel
theorem dX4_advance_279 : decode cX4_advance 279 = .ok (.iconst 2, 1) := by decide +kernel
theorem dX4_advance_280 : decode cX4_advance 280 = .ok (.goto 4, 3) := by decide +kernel
theorem dX4_advance_283 : decode cX4_advance 283 = .ok (.iconst 1, 1) := by decide +kernel
theorem dX4_advance_284 : decode cX4_advance 284 = .ok (.iadd, 1) := by decide +kernel
theorem dX4_advance_285 : decode cX4_advance 285 = .ok (.putfield 34, 3) := by decide +kernel
theorem dX4_advance_288 : decode cX4_advance 288 = .ok (.return_, 1) := by decide +kernel
theorem dX4_isLetter_0 : decode cX4_isLetter 0 = .ok (.iload_n 0, 1) := by decide +kernel
theorem dX4_isLetter_1 : decode cX4_isLetter 1 = .ok (.bipush 97, 2) := by decide +kernel
theorem dX4_isLetter_3 : decode cX4_isLetter 3 = .ok (.if_icmp .lt 9, 3) := by decide +kernel
theorem dX4_isLetter_6 : decode cX4_isLetter 6 = .ok (.iload_n 0, 1) := by decide +kernel
theorem dX4_isLetter_7 : decode cX4_isLetter 7 = .ok (.bipush 122, 2) := by decide +kernel
theorem dX4_isLetter_9 : decode cX4_isLetter 9 = .ok (.if_icmp .le 15, 3) := by decide +kernel
theorem dX4_isLetter_12 : decode cX4_isLetter 12 = .ok (.iload_n 0, 1) := by decide +kernel
theorem dX4_isLetter_13 : decode cX4_isLetter 13 = .ok (.bipush 65, 2) := by decide +kernel
theorem dX4_isLetter_15 : decode cX4_isLetter 15 = .ok (.if_icmp .lt 13, 3) := by decide +kernel
theorem dX4_isLetter_18 : decode cX4_isLetter 18 = .ok (.iload_n 0, 1) := by decide +kernel
theorem dX4_isLetter_19 : decode cX4_isLetter 19 = .ok (.bipush 90, 2) := by decide +kernel
theorem dX4_isLetter_21 : decode cX4_isLetter 21 = .ok (.if_icmp .gt 7, 3) := by decide +kernel
theorem dX4_isLetter_24 : decode cX4_isLetter 24 = .ok (.iconst 1, 1) := by decide +kernel
theorem dX4_isLetter_25 : decode cX4_isLetter 25 = .ok (.goto 4, 3) := by decide +kernel
theorem dX4_isLetter_28 : decode cX4_isLetter 28 = .ok (.iconst 0, 1) := by decide +kernel
theorem dX4_isLetter_29 : decode cX4_isLetter 29 = .ok (.ireturn, 1) := by decide +kernel
theorem dX4_isDigit_0 : decode cX4_isDigit 0 = .ok (.iload_n 0, 1) := by decide +kernel
theorem dX4_isDigit_1 : decode cX4_isDigit 1 = .ok (.bipush 48, 2) := by decide +kernel
theorem dX4_isDigit_3 : decode cX4_isDigit 3 = .ok (.if_icmp .lt 13, 3) := by decide +kernel
theorem dX4_isDigit_6 : decode cX4_isDigit 6 = .ok (.iload_n 0, 1) := by decide +kernel
theorem dX4_isDigit_7 : decode cX4_isDigit 7 = .ok (.bipush 57, 2) := by decide +kernel
theorem dX4_isDigit_9 : decode cX4_isDigit 9 = .ok (.if_icmp .gt 7, 3) := by decide +kernel
theorem dX4_isDigit_12 : decode cX4_isDigit 12 = .ok (.iconst 1, 1) := by decide +kernel
theorem dX4_isDigit_13 : decode cX4_isDigit 13 = .ok (.goto 4, 3) := by decide +kernel
theorem dX4_isDigit_16 : decode cX4_isDigit 16 = .ok (.iconst 0, 1) := by decide +kernel
theorem dX4_isDigit_17 : decode cX4_isDigit 17 = .ok (.ireturn, 1) := by decide +kernel
theorem dX4_signAt_0 : decode cX4_signAt 0 = .ok (.aload_n 0, 1) := by decide +kernel
theorem dX4_signAt_1 : decode cX4_signAt 1 = .ok (.getfield 9, 3) := by decide +kernel
theorem dX4_signAt_4 : decode cX4_signAt 4 = .ok (.iload_n 1, 1) := by decide +kernel
theorem dX4_signAt_5 : decode cX4_signAt 5 = .ok (.iaload, 1) := by decide +kernel
theorem dX4_signAt_6 : decode cX4_signAt 6 = .ok (.istore_n 2, 1) := by decide +kernel
theorem dX4_signAt_7 : decode cX4_signAt 7 = .ok (.iload_n 1, 1) := by decide +kernel
theorem dX4_signAt_8 : decode cX4_signAt 8 = .ok (.iconst 1, 1) := by decide +kernel
theorem dX4_signAt_9 : decode cX4_signAt 9 = .ok (.iadd, 1) := by decide +kernel
theorem dX4_signAt_10 : decode cX4_signAt 10 = .ok (.aload_n 0, 1) := by decide +kernel
theorem dX4_signAt_11 : decode cX4_signAt 11 = .ok (.getfield 22, 3) := by decide +kernel
theorem dX4_signAt_14 : decode cX4_signAt 14 = .ok (.if_icmp .ge 32, 3) := by decide +kernel
theorem dX4_signAt_17 : decode cX4_signAt 17 = .ok (.aload_n 0, 1) := by decide +kernel
theorem dX4_signAt_18 : decode cX4_signAt 18 = .ok (.getfield 9, 3) := by decide +kernel
theorem dX4_signAt_21 : decode cX4_signAt 21 = .ok (.iload_n 1, 1) := by decide +kernel
theorem dX4_signAt_22 : decode cX4_signAt 22 = .ok (.iconst 1, 1) := by decide +kernel
theorem dX4_signAt_23 : decode cX4_signAt 23 = .ok (.iadd, 1) := by decide +kernel
theorem dX4_signAt_24 : decode cX4_signAt 24 = .ok (.iaload, 1) := by decide +kernel
theorem dX4_signAt_25 : decode cX4_signAt 25 = .ok (.bipush 61, 2) := by decide +kernel
theorem dX4_signAt_27 : decode cX4_signAt 27 = .ok (.if_icmp .ne 19, 3) := by decide +kernel
theorem dX4_signAt_30 : decode cX4_signAt 30 = .ok (.iload_n 2, 1) := by decide +kernel
theorem dX4_signAt_31 : decode cX4_signAt 31 = .ok (.bipush 60, 2) := by decide +kernel
theorem dX4_signAt_33 : decode cX4_signAt 33 = .ok (.if_icmp .ne 5, 3) := by decide +kernel
theorem dX4_signAt_36 : decode cX4_signAt 36 = .ok (.iconst 1, 1) := by decide +kernel
theorem dX4_signAt_37 : decode cX4_signAt 37 = .ok (.ireturn, 1) := by decide +kernel
theorem dX4_signAt_38 : decode cX4_signAt 38 = .ok (.iload_n 2, 1) := by decide +kernel
theorem dX4_signAt_39 : decode cX4_signAt 39 = .ok (.bipush 62, 2) := by decide +kernel
theorem dX4_signAt_41 : decode cX4_signAt 41 = .ok (.if_icmp .ne 5, 3) := by decide +kernel
theorem dX4_signAt_44 : decode cX4_signAt 44 = .ok (.iconst 2, 1) := by decide +kernel
theorem dX4_signAt_45 : decode cX4_signAt 45 = .ok (.ireturn, 1) := by decide +kernel
theorem dX4_signAt_46 : decode cX4_signAt 46 = .ok (.iconst 0, 1) := by decide +kernel
theorem dX4_signAt_47 : decode cX4_signAt 47 = .ok (.istore_n 3, 1) := by decide +kernel
theorem dX4_signAt_48 : decode cX4_signAt 48 = .ok (.iload_n 3, 1) := by decide +kernel
theorem dX4_signAt_49 : decode cX4_signAt 49 = .ok (.ldc 151, 2) := by decide +kernel
theorem dX4_signAt_51 : decode cX4_signAt 51 = .ok (.invokevirtual 153, 3) := by decide +kernel
theorem dX4_signAt_54 : decode cX4_signAt 54 = .ok (.if_icmp .ge 21, 3) := by decide +kernel
theorem dX4_signAt_57 : decode cX4_signAt 57 = .ok (.ldc 151, 2) := by decide +kernel
theorem dX4_signAt_59 : decode cX4_signAt 59 = .ok (.iload_n 3, 1) := by decide +kernel
theorem dX4_signAt_60 : decode cX4_signAt 60 = .ok (.invokevirtual 158, 3) := by decide +kernel
theorem dX4_signAt_63 : decode cX4_signAt 63 = .ok (.iload_n 2, 1) := by decide +kernel
theorem dX4_signAt_64 : decode cX4_signAt 64 = .ok (.if_icmp .ne 5, 3) := by decide +kernel
theorem dX4_signAt_67 : decode cX4_signAt 67 = .ok (.iload_n 2, 1) := by decide +kernel
theorem dX4_signAt_68 : decode cX4_signAt 68 = .ok (.ireturn, 1) := by decide +kernel
theorem dX4_signAt_69 : decode cX4_signAt 69 = .ok (.iinc 3 1, 3) := by decide +kernel
theorem dX4_signAt_72 : decode cX4_signAt 72 = .ok (.goto (-24), 3) := by decide +kernel
theorem dX4_signAt_75 : decode cX4_signAt 75 = .ok (.iconst 5, 1) := by decide +kernel
theorem dX4_signAt_76 : decode cX4_signAt 76 = .ok (.ireturn, 1) := by decide +kernel
theorem dX4_wordBetween_0 : decode cX4_wordBetween 0 = .ok (.sipush 128, 3) := by decide +kernel
theorem dX4_wordBetween_3 : decode cX4_wordBetween 3 = .ok (.istore_n 3, 1) := by decide +kernel
theorem dX4_wordBetween_4 : decode cX4_wordBetween 4 = .ok (.iconst 0, 1) := by decide +kernel
theorem dX4_wordBetween_5 : decode cX4_wordBetween 5 = .ok (.istore 4, 2) := by decide +kernel
theorem dX4_wordBetween_7 : decode cX4_wordBetween 7 = .ok (.iconst 1, 1) := by decide +kernel
theorem dX4_wordBetween_8 : decode cX4_wordBetween 8 = .ok (.istore 5, 2) := by decide +kernel
theorem dX4_wordBetween_10 : decode cX4_wordBetween 10 = .ok (.iconst 0, 1) := by decide +kernel
theorem dX4_wordBetween_11 : decode cX4_wordBetween 11 = .ok (.istore 6, 2) := by decide +kernel
theorem dX4_wordBetween_13 : decode cX4_wordBetween 13 = .ok (.iload 6, 2) := by decide +kernel
theorem dX4_wordBetween_15 : decode cX4_wordBetween 15 = .ok (.ldc 162, 2) := by decide +kernel
theorem dX4_wordBetween_17 : decode cX4_wordBetween 17 = .ok (.invokevirtual 153, 3) := by decide +kernel
theorem dX4_wordBetween_20 : decode cX4_wordBetween 20 = .ok (.if_icmp .ge 89, 3) := by decide +kernel
theorem dX4_wordBetween_23 : decode cX4_wordBetween 23 = .ok (.ldc 162, 2) := by decide +kernel
theorem dX4_wordBetween_25 : decode cX4_wordBetween 25 = .ok (.iload 6, 2) := by decide +kernel
theorem dX4_wordBetween_27 : decode cX4_wordBetween 27 = .ok (.invokevirtual 158, 3) := by decide +kernel
theorem dX4_wordBetween_30 : decode cX4_wordBetween 30 = .ok (.istore 7, 2) := by decide +kernel
theorem dX4_wordBetween_32 : decode cX4_wordBetween 32 = .ok (.iload 7, 2) := by decide +kernel
theorem dX4_wordBetween_34 : decode cX4_wordBetween 34 = .ok (.bipush 32, 2) := by decide +kernel
theorem dX4_wordBetween_36 : decode cX4_wordBetween 36 = .ok (.if_icmp .eq 43, 3) := by decide +kernel
theorem dX4_wordBetween_39 : decode cX4_wordBetween 39 = .ok (.iload 5, 2) := by decide +kernel
theorem dX4_wordBetween_41 : decode cX4_wordBetween 41 = .ok (.ifCond .eq 29, 3) := by decide +kernel
theorem dX4_wordBetween_44 : decode cX4_wordBetween 44 = .ok (.iload_n 1, 1) := by decide +kernel
theorem dX4_wordBetween_45 : decode cX4_wordBetween 45 = .ok (.iload 4, 2) := by decide +kernel
theorem dX4_wordBetween_47 : decode cX4_wordBetween 47 = .ok (.iadd, 1) := by decide +kernel
theorem dX4_wordBetween_48 : decode cX4_wordBetween 48 = .ok (.iload_n 2, 1) := by decide +kernel
theorem dX4_wordBetween_49 : decode cX4_wordBetween 49 = .ok (.if_icmp .ge 21, 3) := by decide +kernel
theorem dX4_wordBetween_52 : decode cX4_wordBetween 52 = .ok (.aload_n 0, 1) := by decide +kernel
theorem dX4_wordBetween_53 : decode cX4_wordBetween 53 = .ok (.getfield 9, 3) := by decide +kernel
theorem dX4_wordBetween_56 : decode cX4_wordBetween 56 = .ok (.iload_n 1, 1) := by decide +kernel
theorem dX4_wordBetween_57 : decode cX4_wordBetween 57 = .ok (.iload 4, 2) := by decide +kernel
theorem dX4_wordBetween_59 : decode cX4_wordBetween 59 = .ok (.iadd, 1) := by decide +kernel
theorem dX4_wordBetween_60 : decode cX4_wordBetween 60 = .ok (.iaload, 1) := by decide +kernel
theorem dX4_wordBetween_61 : decode cX4_wordBetween 61 = .ok (.iload 7, 2) := by decide +kernel
theorem dX4_wordBetween_63 : decode cX4_wordBetween 63 = .ok (.if_icmp .ne 7, 3) := by decide +kernel
theorem dX4_wordBetween_66 : decode cX4_wordBetween 66 = .ok (.iconst 1, 1) := by decide +kernel
theorem dX4_wordBetween_67 : decode cX4_wordBetween 67 = .ok (.goto 4, 3) := by decide +kernel
theorem dX4_wordBetween_70 : decode cX4_wordBetween 70 = .ok (.iconst 0, 1) := by decide +kernel
theorem dX4_wordBetween_71 : decode cX4_wordBetween 71 = .ok (.istore 5, 2) := by decide +kernel
theorem dX4_wordBetween_73 : decode cX4_wordBetween 73 = .ok (.iinc 4 1, 3) := by decide +kernel
theorem dX4_wordBetween_76 : decode cX4_wordBetween 76 = .ok (.goto 27, 3) := by decide +kernel
theorem dX4_wordBetween_79 : decode cX4_wordBetween 79 = .ok (.iload 5, 2) := by decide +kernel
theorem dX4_wordBetween_81 : decode cX4_wordBetween 81 = .ok (.ifCond .eq 13, 3) := by decide +kernel
theorem dX4_wordBetween_84 : decode cX4_wordBetween 84 = .ok (.iload 4, 2) := by decide +kernel
theorem dX4_wordBetween_86 : decode cX4_wordBetween 86 = .ok (.iload_n 2, 1) := by decide +kernel
theorem dX4_wordBetween_87 : decode cX4_wordBetween 87 = .ok (.iload_n 1, 1) := by decide +kernel
theorem dX4_wordBetween_88 : decode cX4_wordBetween 88 = .ok (.isub, 1) := by decide +kernel
theorem dX4_wordBetween_89 : decode cX4_wordBetween 89 = .ok (.if_icmp .ne 5, 3) := by decide +kernel
theorem dX4_wordBetween_92 : decode cX4_wordBetween 92 = .ok (.iload_n 3, 1) := by decide +kernel
theorem dX4_wordBetween_93 : decode cX4_wordBetween 93 = .ok (.ireturn, 1) := by decide +kernel
theorem dX4_wordBetween_94 : decode cX4_wordBetween 94 = .ok (.iinc 3 1, 3) := by decide +kernel
theorem dX4_wordBetween_97 : decode cX4_wordBetween 97 = .ok (.iconst 0, 1) := by decide +kernel
theorem dX4_wordBetween_98 : decode cX4_wordBetween 98 = .ok (.istore 4, 2) := by decide +kernel
theorem dX4_wordBetween_100 : decode cX4_wordBetween 100 = .ok (.iconst 1, 1) := by decide +kernel
theorem dX4_wordBetween_101 : decode cX4_wordBetween 101 = .ok (.istore 5, 2) := by decide +kernel
theorem dX4_wordBetween_103 : decode cX4_wordBetween 103 = .ok (.iinc 6 1, 3) := by decide +kernel
theorem dX4_wordBetween_106 : decode cX4_wordBetween 106 = .ok (.goto (-93), 3) := by decide +kernel
theorem dX4_wordBetween_109 : decode cX4_wordBetween 109 = .ok (.iconst 5, 1) := by decide +kernel
theorem dX4_wordBetween_110 : decode cX4_wordBetween 110 = .ok (.ireturn, 1) := by decide +kernel
theorem dX5_init_0 : decode cX5_init 0 = .ok (.aload_n 0, 1) := by decide +kernel
theorem dX5_init_1 : decode cX5_init 1 = .ok (.invokespecial 3, 3) := by decide +kernel
theorem dX5_init_4 : decode cX5_init 4 = .ok (.aload_n 0, 1) := by decide +kernel
theorem dX5_init_5 : decode cX5_init 5 = .ok (.bipush 9, 2) := by decide +kernel
theorem dX5_init_7 : decode cX5_init 7 = .ok (.newarray .int, 2) := by decide +kernel
theorem dX5_init_9 : decode cX5_init 9 = .ok (.putfield 9, 3) := by decide +kernel
theorem dX5_init_12 : decode cX5_init 12 = .ok (.aload_n 0, 1) := by decide +kernel
theorem dX5_init_13 : decode cX5_init 13 = .ok (.bipush 9, 2) := by decide +kernel
theorem dX5_init_15 : decode cX5_init 15 = .ok (.newarray .int, 2) := by decide +kernel
theorem dX5_init_17 : decode cX5_init 17 = .ok (.putfield 15, 3) := by decide +kernel
theorem dX5_init_20 : decode cX5_init 20 = .ok (.aload_n 0, 1) := by decide +kernel
theorem dX5_init_21 : decode cX5_init 21 = .ok (.bipush 9, 2) := by decide +kernel
theorem dX5_init_23 : decode cX5_init 23 = .ok (.newarray .int, 2) := by decide +kernel
theorem dX5_init_25 : decode cX5_init 25 = .ok (.putfield 18, 3) := by decide +kernel
theorem dX5_init_28 : decode cX5_init 28 = .ok (.aload_n 0, 1) := by decide +kernel
theorem dX5_init_29 : decode cX5_init 29 = .ok (.bipush 9, 2) := by decide +kernel
theorem dX5_init_31 : decode cX5_init 31 = .ok (.newarray .int, 2) := by decide +kernel
theorem dX5_init_33 : decode cX5_init 33 = .ok (.putfield 21, 3) := by decide +kernel
theorem dX5_init_36 : decode cX5_init 36 = .ok (.aload_n 0, 1) := by decide +kernel
theorem dX5_init_37 : decode cX5_init 37 = .ok (.bipush 9, 2) := by decide +kernel
theorem dX5_init_39 : decode cX5_init 39 = .ok (.newarray .int, 2) := by decide +kernel
theorem dX5_init_41 : decode cX5_init 41 = .ok (.putfield 24, 3) := by decide +kernel
theorem dX5_init_44 : decode cX5_init 44 = .ok (.aload_n 0, 1) := by decide +kernel
theorem dX5_init_45 : decode cX5_init 45 = .ok (.bipush 7, 2) := by decide +kernel
theorem dX5_init_47 : decode cX5_init 47 = .ok (.newarray .int, 2) := by decide +kernel
theorem dX5_init_49 : decode cX5_init 49 = .ok (.putfield 27, 3) := by decide +kernel
theorem dX5_init_52 : decode cX5_init 52 = .ok (.aload_n 0, 1) := by decide +kernel
theorem dX5_init_53 : decode cX5_init 53 = .ok (.bipush 7, 2) := by decide +kernel
theorem dX5_init_55 : decode cX5_init 55 = .ok (.newarray .int, 2) := by decide +kernel
theorem dX5_init_57 : decode cX5_init 57 = .ok (.putfield 30, 3) := by decide +kernel
theorem dX5_init_60 : decode cX5_init 60 = .ok (.aload_n 0, 1) := by decide +kernel
theorem dX5_init_61 : decode cX5_init 61 = .ok (.bipush 7, 2) := by decide +kernel
theorem dX5_init_63 : decode cX5_init 63 = .ok (.newarray .int, 2) := by decide +kernel
theorem dX5_init_65 : decode cX5_init 65 = .ok (.putfield 33, 3) := by decide +kernel
theorem dX5_init_68 : decode cX5_init 68 = .ok (.aload_n 0, 1) := by decide +kernel
theorem dX5_init_69 : decode cX5_init 69 = .ok (.bipush 7, 2) := by decide +kernel
theorem dX5_init_71 : decode cX5_init 71 = .ok (.newarray .int, 2) := by decide +kernel
theorem dX5_init_73 : decode cX5_init 73 = .ok (.putfield 36, 3) := by decide +kernel
theorem dX5_init_76 : decode cX5_init 76 = .ok (.aload_n 0, 1) := by decide +kernel
theorem dX5_init_77 : decode cX5_init 77 = .ok (.bipush 83, 2) := by decide +kernel
theorem dX5_init_79 : decode cX5_init 79 = .ok (.putfield 39, 3) := by decide +kernel
theorem dX5_init_82 : decode cX5_init 82 = .ok (.aload_n 0, 1) := by decide +kernel
theorem dX5_init_83 : decode cX5_init 83 = .ok (.bipush 40, 2) := by decide +kernel
theorem dX5_init_85 : decode cX5_init 85 = .ok (.newarray .int, 2) := by decide +kernel
theorem dX5_init_87 : decode cX5_init 87 = .ok (.putfield 43, 3) := by decide +kernel
theorem dX5_init_90 : decode cX5_init 90 = .ok (.return_, 1) := by decide +kernel
theorem dX5_addStep_0 : decode cX5_addStep 0 = .ok (.aload_n 0, 1) := by decide +kernel
theorem dX5_addStep_1 : decode cX5_addStep 1 = .ok (.getfield 46, 3) := by decide +kernel
theorem dX5_addStep_4 : decode cX5_addStep 4 = .ok (.bipush 9, 2) := by decide +kernel
theorem dX5_addStep_6 : decode cX5_addStep 6 = .ok (.if_icmp .lt 5, 3) := by decide +kernel
theorem dX5_addStep_9 : decode cX5_addStep 9 = .ok (.iconst (-1), 1) := by decide +kernel
theorem dX5_addStep_10 : decode cX5_addStep 10 = .ok (.ireturn, 1) := by decide +kernel
theorem dX5_addStep_11 : decode cX5_addStep 11 = .ok (.aload_n 0, 1) := by decide +kernel
theorem dX5_addStep_12 : decode cX5_addStep 12 = .ok (.getfield 9, 3) := by decide +kernel
theorem dX5_addStep_15 : decode cX5_addStep 15 = .ok (.aload_n 0, 1) := by decide +kernel
theorem dX5_addStep_16 : decode cX5_addStep 16 = .ok (.getfield 46, 3) := by decide +kernel
theorem dX5_addStep_19 : decode cX5_addStep 19 = .ok (.iload_n 1, 1) := by decide +kernel
theorem dX5_addStep_20 : decode cX5_addStep 20 = .ok (.iastore, 1) := by decide +kernel
theorem dX5_addStep_21 : decode cX5_addStep 21 = .ok (.aload_n 0, 1) := by decide +kernel
theorem dX5_addStep_22 : decode cX5_addStep 22 = .ok (.getfield 15, 3) := by decide +kernel
theorem dX5_addStep_25 : decode cX5_addStep 25 = .ok (.aload_n 0, 1) := by decide +kernel
theorem dX5_addStep_26 : decode cX5_addStep 26 = .ok (.getfield 46, 3) := by decide +kernel
theorem dX5_addStep_29 : decode cX5_addStep 29 = .ok (.iload_n 2, 1) := by decide +kernel
theorem dX5_addStep_30 : decode cX5_addStep 30 = .ok (.iastore, 1) := by decide +kernel
theorem dX5_addStep_31 : decode cX5_addStep 31 = .ok (.aload_n 0, 1) := by decide +kernel
theorem dX5_addStep_32 : decode cX5_addStep 32 = .ok (.getfield 18, 3) := by decide +kernel
theorem dX5_addStep_35 : decode cX5_addStep 35 = .ok (.aload_n 0, 1) := by decide +kernel
theorem dX5_addStep_36 : decode cX5_addStep 36 = .ok (.getfield 46, 3) := by decide +kernel
theorem dX5_addStep_39 : decode cX5_addStep 39 = .ok (.iload_n 3, 1) := by decide +kernel
theorem dX5_addStep_40 : decode cX5_addStep 40 = .ok (.iastore, 1) := by decide +kernel
theorem dX5_addStep_41 : decode cX5_addStep 41 = .ok (.aload_n 0, 1) := by decide +kernel
theorem dX5_addStep_42 : decode cX5_addStep 42 = .ok (.getfield 21, 3) := by decide +kernel
theorem dX5_addStep_45 : decode cX5_addStep 45 = .ok (.aload_n 0, 1) := by decide +kernel
theorem dX5_addStep_46 : decode cX5_addStep 46 = .ok (.getfield 46, 3) := by decide +kernel
theorem dX5_addStep_49 : decode cX5_addStep 49 = .ok (.iload 4, 2) := by decide +kernel
theorem dX5_addStep_51 : decode cX5_addStep 51 = .ok (.iastore, 1) := by decide +kernel
theorem dX5_addStep_52 : decode cX5_addStep 52 = .ok (.aload_n 0, 1) := by decide +kernel
theorem dX5_addStep_53 : decode cX5_addStep 53 = .ok (.getfield 24, 3) := by decide +kernel
theorem dX5_addStep_56 : decode cX5_addStep 56 = .ok (.aload_n 0, 1) := by decide +kernel
theorem dX5_addStep_57 : decode cX5_addStep 57 = .ok (.getfield 46, 3) := by decide +kernel
theorem dX5_addStep_60 : decode cX5_addStep 60 = .ok (.iconst 0, 1) := by decide +kernel
theorem dX5_addStep_61 : decode cX5_addStep 61 = .ok (.iastore, 1) := by decide +kernel
theorem dX5_addStep_62 : decode cX5_addStep 62 = .ok (.aload_n 0, 1) := by decide +kernel
theorem dX5_addStep_63 : decode cX5_addStep 63 = .ok (.dup, 1) := by decide +kernel
theorem dX5_addStep_64 : decode cX5_addStep 64 = .ok (.getfield 46, 3) := by decide +kernel
theorem dX5_addStep_67 : decode cX5_addStep 67 = .ok (.iconst 1, 1) := by decide +kernel
theorem dX5_addStep_68 : decode cX5_addStep 68 = .ok (.iadd, 1) := by decide +kernel
theorem dX5_addStep_69 : decode cX5_addStep 69 = .ok (.putfield 46, 3) := by decide +kernel
theorem dX5_addStep_72 : decode cX5_addStep 72 = .ok (.aload_n 0, 1) := by decide +kernel
theorem dX5_addStep_73 : decode cX5_addStep 73 = .ok (.getfield 46, 3) := by decide +kernel
theorem dX5_addStep_76 : decode cX5_addStep 76 = .ok (.iconst 1, 1) := by decide +kernel
theorem dX5_addStep_77 : decode cX5_addStep 77 = .ok (.isub, 1) := by decide +kernel
theorem dX5_addStep_78 : decode cX5_addStep 78 = .ok (.ireturn, 1) := by decide +kernel
theorem dX5_addShip_0 : decode cX5_addShip 0 = .ok (.aload_n 0, 1) := by decide +kernel
theorem dX5_addShip_1 : decode cX5_addShip 1 = .ok (.getfield 49, 3) := by decide +kernel
theorem dX5_addShip_4 : decode cX5_addShip 4 = .ok (.bipush 7, 2) := by decide +kernel
theorem dX5_addShip_6 : decode cX5_addShip 6 = .ok (.if_icmp .lt 5, 3) := by decide +kernel
theorem dX5_addShip_9 : decode cX5_addShip 9 = .ok (.iconst (-1), 1) := by decide +kernel
theorem dX5_addShip_10 : decode cX5_addShip 10 = .ok (.ireturn, 1) := by decide +kernel
theorem dX5_addShip_11 : decode cX5_addShip 11 = .ok (.aload_n 0, 1) := by decide +kernel
theorem dX5_addShip_12 : decode cX5_addShip 12 = .ok (.getfield 27, 3) := by decide +kernel
theorem dX5_addShip_15 : decode cX5_addShip 15 = .ok (.aload_n 0, 1) := by decide +kernel
theorem dX5_addShip_16 : decode cX5_addShip 16 = .ok (.getfield 49, 3) := by decide +kernel
theorem dX5_addShip_19 : decode cX5_addShip 19 = .ok (.iload_n 1, 1) := by decide +kernel
theorem dX5_addShip_20 : decode cX5_addShip 20 = .ok (.iastore, 1) := by decide +kernel
theorem dX5_addShip_21 : decode cX5_addShip 21 = .ok (.aload_n 0, 1) := by decide +kernel
theorem dX5_addShip_22 : decode cX5_addShip 22 = .ok (.getfield 30, 3) := by decide +kernel
theorem dX5_addShip_25 : decode cX5_addShip 25 = .ok (.aload_n 0, 1) := by decide +kernel
theorem dX5_addShip_26 : decode cX5_addShip 26 = .ok (.getfield 49, 3) := by decide +kernel
theorem dX5_addShip_29 : decode cX5_addShip 29 = .ok (.iload_n 2, 1) := by decide +kernel
theorem dX5_addShip_30 : decode cX5_addShip 30 = .ok (.iastore, 1) := by decide +kernel
theorem dX5_addShip_31 : decode cX5_addShip 31 = .ok (.aload_n 0, 1) := by decide +kernel
theorem dX5_addShip_32 : decode cX5_addShip 32 = .ok (.getfield 33, 3) := by decide +kernel
theorem dX5_addShip_35 : decode cX5_addShip 35 = .ok (.aload_n 0, 1) := by decide +kernel
theorem dX5_addShip_36 : decode cX5_addShip 36 = .ok (.getfield 49, 3) := by decide +kernel
theorem dX5_addShip_39 : decode cX5_addShip 39 = .ok (.iload_n 3, 1) := by decide +kernel
theorem dX5_addShip_40 : decode cX5_addShip 40 = .ok (.iastore, 1) := by decide +kernel
theorem dX5_addShip_41 : decode cX5_addShip 41 = .ok (.aload_n 0, 1) := by decide +kernel
theorem dX5_addShip_42 : decode cX5_addShip 42 = .ok (.getfield 36, 3) := by decide +kernel
theorem dX5_addShip_45 : decode cX5_addShip 45 = .ok (.aload_n 0, 1) := by decide +kernel
theorem dX5_addShip_46 : decode cX5_addShip 46 = .ok (.getfield 49, 3) := by decide +kernel
theorem dX5_addShip_49 : decode cX5_addShip 49 = .ok (.iconst 0, 1) := by decide +kernel
theorem dX5_addShip_50 : decode cX5_addShip 50 = .ok (.iastore, 1) := by decide +kernel
theorem dX5_addShip_51 : decode cX5_addShip 51 = .ok (.aload_n 0, 1) := by decide +kernel
theorem dX5_addShip_52 : decode cX5_addShip 52 = .ok (.dup, 1) := by decide +kernel
theorem dX5_addShip_53 : decode cX5_addShip 53 = .ok (.getfield 49, 3) := by decide +kernel
theorem dX5_addShip_56 : decode cX5_addShip 56 = .ok (.iconst 1, 1) := by decide +kernel
theorem dX5_addShip_57 : decode cX5_addShip 57 = .ok (.iadd, 1) := by decide +kernel
theorem dX5_addShip_58 : decode cX5_addShip 58 = .ok (.putfield 49, 3) := by decide +kernel
theorem dX5_addShip_61 : decode cX5_addShip 61 = .ok (.aload_n 0, 1) := by decide +kernel
theorem dX5_addShip_62 : decode cX5_addShip 62 = .ok (.getfield 49, 3) := by decide +kernel
theorem dX5_addShip_65 : decode cX5_addShip 65 = .ok (.iconst 1, 1) := by decide +kernel
theorem dX5_addShip_66 : decode cX5_addShip 66 = .ok (.isub, 1) := by decide +kernel
theorem dX5_addShip_67 : decode cX5_addShip 67 = .ok (.ireturn, 1) := by decide +kernel
theorem dX5_copyFrom_0 : decode cX5_copyFrom 0 = .ok (.aload_n 0, 1) := by decide +kernel
theorem dX5_copyFrom_1 : decode cX5_copyFrom 1 = .ok (.aload_n 1, 1) := by decide +kernel
theorem dX5_copyFrom_2 : decode cX5_copyFrom 2 = .ok (.getfield 46, 3) := by decide +kernel
theorem dX5_copyFrom_5 : decode cX5_copyFrom 5 = .ok (.putfield 46, 3) := by decide +kernel
theorem dX5_copyFrom_8 : decode cX5_copyFrom 8 = .ok (.aload_n 0, 1) := by decide +kernel
theorem dX5_copyFrom_9 : decode cX5_copyFrom 9 = .ok (.aload_n 1, 1) := by decide +kernel
theorem dX5_copyFrom_10 : decode cX5_copyFrom 10 = .ok (.getfield 49, 3) := by decide +kernel
theorem dX5_copyFrom_13 : decode cX5_copyFrom 13 = .ok (.putfield 49, 3) := by decide +kernel
theorem dX5_copyFrom_16 : decode cX5_copyFrom 16 = .ok (.aload_n 1, 1) := by decide +kernel
theorem dX5_copyFrom_17 : decode cX5_copyFrom 17 = .ok (.getfield 9, 3) := by decide +kernel
theorem dX5_copyFrom_20 : decode cX5_copyFrom 20 = .ok (.iconst 0, 1) := by decide +kernel
theorem dX5_copyFrom_21 : decode cX5_copyFrom 21 = .ok (.aload_n 0, 1) := by decide +kernel
theorem dX5_copyFrom_22 : decode cX5_copyFrom 22 = .ok (.getfield 9, 3) := by decide +kernel
theorem dX5_copyFrom_25 : decode cX5_copyFrom 25 = .ok (.iconst 0, 1) := by decide +kernel
theorem dX5_copyFrom_26 : decode cX5_copyFrom 26 = .ok (.bipush 9, 2) := by decide +kernel
theorem dX5_copyFrom_28 : decode cX5_copyFrom 28 = .ok (.invokestatic 52, 3) := by decide +kernel
theorem dX5_copyFrom_31 : decode cX5_copyFrom 31 = .ok (.aload_n 1, 1) := by decide +kernel
theorem dX5_copyFrom_32 : decode cX5_copyFrom 32 = .ok (.getfield 27, 3) := by decide +kernel
theorem dX5_copyFrom_35 : decode cX5_copyFrom 35 = .ok (.iconst 0, 1) := by decide +kernel
theorem dX5_copyFrom_36 : decode cX5_copyFrom 36 = .ok (.aload_n 0, 1) := by decide +kernel
theorem dX5_copyFrom_37 : decode cX5_copyFrom 37 = .ok (.getfield 27, 3) := by decide +kernel
theorem dX5_copyFrom_40 : decode cX5_copyFrom 40 = .ok (.iconst 0, 1) := by decide +kernel
theorem dX5_copyFrom_41 : decode cX5_copyFrom 41 = .ok (.bipush 7, 2) := by decide +kernel
theorem dX5_copyFrom_43 : decode cX5_copyFrom 43 = .ok (.invokestatic 52, 3) := by decide +kernel
theorem dX5_copyFrom_46 : decode cX5_copyFrom 46 = .ok (.aload_n 0, 1) := by decide +kernel
theorem dX5_copyFrom_47 : decode cX5_copyFrom 47 = .ok (.aload_n 1, 1) := by decide +kernel
theorem dX5_copyFrom_48 : decode cX5_copyFrom 48 = .ok (.invokevirtual 58, 3) := by decide +kernel
theorem dX5_copyFrom_51 : decode cX5_copyFrom 51 = .ok (.return_, 1) := by decide +kernel
theorem dX5_goBackTo_0 : decode cX5_goBackTo 0 = .ok (.aload_n 1, 1) := by decide +kernel
theorem dX5_goBackTo_1 : decode cX5_goBackTo 1 = .ok (.getfield 15, 3) := by decide +kernel
theorem dX5_goBackTo_4 : decode cX5_goBackTo 4 = .ok (.iconst 0, 1) := by decide +kernel
theorem dX5_goBackTo_5 : decode cX5_goBackTo 5 = .ok (.aload_n 0, 1) := by decide +kernel
theorem dX5_goBackTo_6 : decode cX5_goBackTo 6 = .ok (.getfield 15, 3) := by decide +kernel
theorem dX5_goBackTo_9 : decode cX5_goBackTo 9 = .ok (.iconst 0, 1) := by decide +kernel
theorem dX5_goBackTo_10 : decode cX5_goBackTo 10 = .ok (.aload_n 1, 1) := by decide +kernel
theorem dX5_goBackTo_11 : decode cX5_goBackTo 11 = .ok (.getfield 46, 3) := by decide +kernel
theorem dX5_goBackTo_14 : decode cX5_goBackTo 14 = .ok (.invokestatic 52, 3) := by decide +kernel
theorem dX5_goBackTo_17 : decode cX5_goBackTo 17 = .ok (.aload_n 1, 1) := by decide +kernel
theorem dX5_goBackTo_18 : decode cX5_goBackTo 18 = .ok (.getfield 18, 3) := by decide +kernel
theorem dX5_goBackTo_21 : decode cX5_goBackTo 21 = .ok (.iconst 0, 1) := by decide +kernel
theorem dX5_goBackTo_22 : decode cX5_goBackTo 22 = .ok (.aload_n 0, 1) := by decide +kernel
theorem dX5_goBackTo_23 : decode cX5_goBackTo 23 = .ok (.getfield 18, 3) := by decide +kernel
theorem dX5_goBackTo_26 : decode cX5_goBackTo 26 = .ok (.iconst 0, 1) := by decide +kernel
theorem dX5_goBackTo_27 : decode cX5_goBackTo 27 = .ok (.aload_n 1, 1) := by decide +kernel
theorem dX5_goBackTo_28 : decode cX5_goBackTo 28 = .ok (.getfield 46, 3) := by decide +kernel
theorem dX5_goBackTo_31 : decode cX5_goBackTo 31 = .ok (.invokestatic 52, 3) := by decide +kernel
theorem dX5_goBackTo_34 : decode cX5_goBackTo 34 = .ok (.aload_n 1, 1) := by decide +kernel
theorem dX5_goBackTo_35 : decode cX5_goBackTo 35 = .ok (.getfield 21, 3) := by decide +kernel
theorem dX5_goBackTo_38 : decode cX5_goBackTo 38 = .ok (.iconst 0, 1) := by decide +kernel
theorem dX5_goBackTo_39 : decode cX5_goBackTo 39 = .ok (.aload_n 0, 1) := by decide +kernel
theorem dX5_goBackTo_40 : decode cX5_goBackTo 40 = .ok (.getfield 21, 3) := by decide +kernel
theorem dX5_goBackTo_43 : decode cX5_goBackTo 43 = .ok (.iconst 0, 1) := by decide +kernel
theorem dX5_goBackTo_44 : decode cX5_goBackTo 44 = .ok (.aload_n 1, 1) := by decide +kernel
theorem dX5_goBackTo_45 : decode cX5_goBackTo 45 = .ok (.getfield 46, 3) := by decide +kernel
theorem dX5_goBackTo_48 : decode cX5_goBackTo 48 = .ok (.invokestatic 52, 3) := by decide +kernel
theorem dX5_goBackTo_51 : decode cX5_goBackTo 51 = .ok (.aload_n 1, 1) := by decide +kernel
theorem dX5_goBackTo_52 : decode cX5_goBackTo 52 = .ok (.getfield 24, 3) := by decide +kernel
theorem dX5_goBackTo_55 : decode cX5_goBackTo 55 = .ok (.iconst 0, 1) := by decide +kernel
theorem dX5_goBackTo_56 : decode cX5_goBackTo 56 = .ok (.aload_n 0, 1) := by decide +kernel
theorem dX5_goBackTo_57 : decode cX5_goBackTo 57 = .ok (.getfield 24, 3) := by decide +kernel
theorem dX5_goBackTo_60 : decode cX5_goBackTo 60 = .ok (.iconst 0, 1) := by decide +kernel
theorem dX5_goBackTo_61 : decode cX5_goBackTo 61 = .ok (.aload_n 1, 1) := by decide +kernel
theorem dX5_goBackTo_62 : decode cX5_goBackTo 62 = .ok (.getfield 46, 3) := by decide +kernel
theorem dX5_goBackTo_65 : decode cX5_goBackTo 65 = .ok (.invokestatic 52, 3) := by decide +kernel
theorem dX5_goBackTo_68 : decode cX5_goBackTo 68 = .ok (.aload_n 1, 1) := by decide +kernel
theorem dX5_goBackTo_69 : decode cX5_goBackTo 69 = .ok (.getfield 30, 3) := by decide +kernel
theorem dX5_goBackTo_72 : decode cX5_goBackTo 72 = .ok (.iconst 0, 1) := by decide +kernel
theorem dX5_goBackTo_73 : decode cX5_goBackTo 73 = .ok (.aload_n 0, 1) := by decide +kernel
theorem dX5_goBackTo_74 : decode cX5_goBackTo 74 = .ok (.getfield 30, 3) := by decide +kernel
theorem dX5_goBackTo_77 : decode cX5_goBackTo 77 = .ok (.iconst 0, 1) := by decide +kernel
theorem dX5_goBackTo_78 : decode cX5_goBackTo 78 = .ok (.aload_n 1, 1) := by decide +kernel
theorem dX5_goBackTo_79 : decode cX5_goBackTo 79 = .ok (.getfield 49, 3) := by decide +kernel
theorem dX5_goBackTo_82 : decode cX5_goBackTo 82 = .ok (.invokestatic 52, 3) := by decide +kernel
theorem dX5_goBackTo_85 : decode cX5_goBackTo 85 = .ok (.aload_n 1, 1) := by decide +kernel
theorem dX5_goBackTo_86 : decode cX5_goBackTo 86 = .ok (.getfield 33, 3) := by decide +kernel
theorem dX5_goBackTo_89 : decode cX5_goBackTo 89 = .ok (.iconst 0, 1) := by decide +kernel
theorem dX5_goBackTo_90 : decode cX5_goBackTo 90 = .ok (.aload_n 0, 1) := by decide +kernel
theorem dX5_goBackTo_91 : decode cX5_goBackTo 91 = .ok (.getfield 33, 3) := by decide +kernel
theorem dX5_goBackTo_94 : decode cX5_goBackTo 94 = .ok (.iconst 0, 1) := by decide +kernel
theorem dX5_goBackTo_95 : decode cX5_goBackTo 95 = .ok (.aload_n 1, 1) := by decide +kernel
theorem dX5_goBackTo_96 : decode cX5_goBackTo 96 = .ok (.getfield 49, 3) := by decide +kernel
theorem dX5_goBackTo_99 : decode cX5_goBackTo 99 = .ok (.invokestatic 52, 3) := by decide +kernel
theorem dX5_goBackTo_102 : decode cX5_goBackTo 102 = .ok (.aload_n 1, 1) := by decide +kernel
theorem dX5_goBackTo_103 : decode cX5_goBackTo 103 = .ok (.getfield 36, 3) := by decide +kernel
theorem dX5_goBackTo_106 : decode cX5_goBackTo 106 = .ok (.iconst 0, 1) := by decide +kernel
theorem dX5_goBackTo_107 : decode cX5_goBackTo 107 = .ok (.aload_n 0, 1) := by decide +kernel
theorem dX5_goBackTo_108 : decode cX5_goBackTo 108 = .ok (.getfield 36, 3) := by decide +kernel
theorem dX5_goBackTo_111 : decode cX5_goBackTo 111 = .ok (.iconst 0, 1) := by decide +kernel
theorem dX5_goBackTo_112 : decode cX5_goBackTo 112 = .ok (.aload_n 1, 1) := by decide +kernel
theorem dX5_goBackTo_113 : decode cX5_goBackTo 113 = .ok (.getfield 49, 3) := by decide +kernel
theorem dX5_goBackTo_116 : decode cX5_goBackTo 116 = .ok (.invokestatic 52, 3) := by decide +kernel
theorem dX5_goBackTo_119 : decode cX5_goBackTo 119 = .ok (.aload_n 0, 1) := by decide +kernel
theorem dX5_goBackTo_120 : decode cX5_goBackTo 120 = .ok (.aload_n 1, 1) := by decide +kernel
theorem dX5_goBackTo_121 : decode cX5_goBackTo 121 = .ok (.getfield 62, 3) := by decide +kernel
theorem dX5_goBackTo_124 : decode cX5_goBackTo 124 = .ok (.putfield 62, 3) := by decide +kernel
theorem dX5_goBackTo_127 : decode cX5_goBackTo 127 = .ok (.aload_n 0, 1) := by decide +kernel
theorem dX5_goBackTo_128 : decode cX5_goBackTo 128 = .ok (.aload_n 1, 1) := by decide +kernel
theorem dX5_goBackTo_129 : decode cX5_goBackTo 129 = .ok (.getfield 65, 3) := by decide +kernel
theorem dX5_goBackTo_132 : decode cX5_goBackTo 132 = .ok (.putfield 65, 3) := by decide +kernel
theorem dX5_goBackTo_135 : decode cX5_goBackTo 135 = .ok (.aload_n 0, 1) := by decide +kernel
theorem dX5_goBackTo_136 : decode cX5_goBackTo 136 = .ok (.aload_n 1, 1) := by decide +kernel
theorem dX5_goBackTo_137 : decode cX5_goBackTo 137 = .ok (.getfield 68, 3) := by decide +kernel
theorem dX5_goBackTo_140 : decode cX5_goBackTo 140 = .ok (.putfield 68, 3) := by decide +kernel
theorem dX5_goBackTo_143 : decode cX5_goBackTo 143 = .ok (.aload_n 0, 1) := by decide +kernel
theorem dX5_goBackTo_144 : decode cX5_goBackTo 144 = .ok (.aload_n 1, 1) := by decide +kernel
theorem dX5_goBackTo_145 : decode cX5_goBackTo 145 = .ok (.getfield 39, 3) := by decide +kernel
theorem dX5_goBackTo_148 : decode cX5_goBackTo 148 = .ok (.putfield 39, 3) := by decide +kernel
theorem dX5_goBackTo_151 : decode cX5_goBackTo 151 = .ok (.aload_n 0, 1) := by decide +kernel
theorem dX5_goBackTo_152 : decode cX5_goBackTo 152 = .ok (.aload_n 1, 1) := by decide +kernel
theorem dX5_goBackTo_153 : decode cX5_goBackTo 153 = .ok (.getfield 71, 3) := by decide +kernel
theorem dX5_goBackTo_156 : decode cX5_goBackTo 156 = .ok (.putfield 71, 3) := by decide +kernel
theorem dX5_goBackTo_159 : decode cX5_goBackTo 159 = .ok (.aload_n 1, 1) := by decide +kernel
theorem dX5_goBackTo_160 : decode cX5_goBackTo 160 = .ok (.getfield 43, 3) := by decide +kernel
theorem dX5_goBackTo_163 : decode cX5_goBackTo 163 = .ok (.iconst 0, 1) := by decide +kernel
theorem dX5_goBackTo_164 : decode cX5_goBackTo 164 = .ok (.aload_n 0, 1) := by decide +kernel
theorem dX5_goBackTo_165 : decode cX5_goBackTo 165 = .ok (.getfield 43, 3) := by decide +kernel
theorem dX5_goBackTo_168 : decode cX5_goBackTo 168 = .ok (.iconst 0, 1) := by decide +kernel
theorem dX5_goBackTo_169 : decode cX5_goBackTo 169 = .ok (.aload_n 1, 1) := by decide +kernel
theorem dX5_goBackTo_170 : decode cX5_goBackTo 170 = .ok (.getfield 71, 3) := by decide +kernel
theorem dX5_goBackTo_173 : decode cX5_goBackTo 173 = .ok (.invokestatic 52, 3) := by decide +kernel
theorem dX5_goBackTo_176 : decode cX5_goBackTo 176 = .ok (.return_, 1) := by decide +kernel
theorem dX5_addWater_0 : decode cX5_addWater 0 = .ok (.aload_n 0, 1) := by decide +kernel
theorem dX5_addWater_1 : decode cX5_addWater 1 = .ok (.getfield 18, 3) := by decide +kernel
theorem dX5_addWater_4 : decode cX5_addWater 4 = .ok (.iload_n 1, 1) := by decide +kernel
theorem dX5_addWater_5 : decode cX5_addWater 5 = .ok (.sipush 999, 3) := by decide +kernel
theorem dX5_addWater_8 : decode cX5_addWater 8 = .ok (.aload_n 0, 1) := by decide +kernel
theorem dX5_addWater_9 : decode cX5_addWater 9 = .ok (.getfield 18, 3) := by decide +kernel
theorem dX5_addWater_12 : decode cX5_addWater 12 = .ok (.iload_n 1, 1) := by decide +kernel
theorem dX5_addWater_13 : decode cX5_addWater 13 = .ok (.iaload, 1) := by decide +kernel
theorem dX5_addWater_14 : decode cX5_addWater 14 = .ok (.iload_n 2, 1) := by decide +kernel
theorem dX5_addWater_15 : decode cX5_addWater 15 = .ok (.iadd, 1) := by decide +kernel
theorem dX5_addWater_16 : decode cX5_addWater 16 = .ok (.invokestatic 74, 3) := by decide +kernel
theorem dX5_addWater_19 : decode cX5_addWater 19 = .ok (.iastore, 1) := by decide +kernel
theorem dX5_addWater_20 : decode cX5_addWater 20 = .ok (.return_, 1) := by decide +kernel
theorem dX5_pay_0 : decode cX5_pay 0 = .ok (.aload_n 0, 1) := by decide +kernel
theorem dX5_pay_1 : decode cX5_pay 1 = .ok (.getfield 36, 3) := by decide +kernel
theorem dX5_pay_4 : decode cX5_pay 4 = .ok (.iload_n 1, 1) := by decide +kernel
theorem dX5_pay_5 : decode cX5_pay 5 = .ok (.ldc 80, 2) := by decide +kernel
theorem dX5_pay_7 : decode cX5_pay 7 = .ok (.aload_n 0, 1) := by decide +kernel
theorem dX5_pay_8 : decode cX5_pay 8 = .ok (.getfield 36, 3) := by decide +kernel
theorem dX5_pay_11 : decode cX5_pay 11 = .ok (.iload_n 1, 1) := by decide +kernel
theorem dX5_pay_12 : decode cX5_pay 12 = .ok (.iaload, 1) := by decide +kernel
theorem dX5_pay_13 : decode cX5_pay 13 = .ok (.iload_n 2, 1) := by decide +kernel
theorem dX5_pay_14 : decode cX5_pay 14 = .ok (.iadd, 1) := by decide +kernel
theorem dX5_pay_15 : decode cX5_pay 15 = .ok (.invokestatic 74, 3) := by decide +kernel
theorem dX5_pay_18 : decode cX5_pay 18 = .ok (.iastore, 1) := by decide +kernel
theorem dX5_pay_19 : decode cX5_pay 19 = .ok (.return_, 1) := by decide +kernel
theorem dX5_moveTo_0 : decode cX5_moveTo 0 = .ok (.aload_n 0, 1) := by decide +kernel
theorem dX5_moveTo_1 : decode cX5_moveTo 1 = .ok (.getfield 30, 3) := by decide +kernel
theorem dX5_moveTo_4 : decode cX5_moveTo 4 = .ok (.iload_n 1, 1) := by decide +kernel
theorem dX5_moveTo_5 : decode cX5_moveTo 5 = .ok (.iload_n 2, 1) := by decide +kernel
theorem dX5_moveTo_6 : decode cX5_moveTo 6 = .ok (.iastore, 1) := by decide +kernel
theorem dX5_moveTo_7 : decode cX5_moveTo 7 = .ok (.aload_n 0, 1) := by decide +kernel
theorem dX5_moveTo_8 : decode cX5_moveTo 8 = .ok (.getfield 71, 3) := by decide +kernel
theorem dX5_moveTo_11 : decode cX5_moveTo 11 = .ok (.bipush 40, 2) := by decide +kernel
theorem dX5_moveTo_13 : decode cX5_moveTo 13 = .ok (.if_icmp .ne 28, 3) := by decide +kernel
theorem dX5_moveTo_16 : decode cX5_moveTo 16 = .ok (.aload_n 0, 1) := by decide +kernel
theorem dX5_moveTo_17 : decode cX5_moveTo 17 = .ok (.getfield 43, 3) := by decide +kernel
theorem dX5_moveTo_20 : decode cX5_moveTo 20 = .ok (.iconst 1, 1) := by decide +kernel
theorem dX5_moveTo_21 : decode cX5_moveTo 21 = .ok (.aload_n 0, 1) := by decide +kernel
theorem dX5_moveTo_22 : decode cX5_moveTo 22 = .ok (.getfield 43, 3) := by decide +kernel
theorem dX5_moveTo_25 : decode cX5_moveTo 25 = .ok (.iconst 0, 1) := by decide +kernel
theorem dX5_moveTo_26 : decode cX5_moveTo 26 = .ok (.bipush 39, 2) := by decide +kernel
theorem dX5_moveTo_28 : decode cX5_moveTo 28 = .ok (.invokestatic 52, 3) := by decide +kernel
theorem dX5_moveTo_31 : decode cX5_moveTo 31 = .ok (.aload_n 0, 1) := by decide +kernel
theorem dX5_moveTo_32 : decode cX5_moveTo 32 = .ok (.dup, 1) := by decide +kernel
theorem dX5_moveTo_33 : decode cX5_moveTo 33 = .ok (.getfield 71, 3) := by decide +kernel
theorem dX5_moveTo_36 : decode cX5_moveTo 36 = .ok (.iconst 1, 1) := by decide +kernel
theorem dX5_moveTo_37 : decode cX5_moveTo 37 = .ok (.isub, 1) := by decide +kernel
theorem dX5_moveTo_38 : decode cX5_moveTo 38 = .ok (.putfield 71, 3) := by decide +kernel
theorem dX5_moveTo_41 : decode cX5_moveTo 41 = .ok (.aload_n 0, 1) := by decide +kernel
theorem dX5_moveTo_42 : decode cX5_moveTo 42 = .ok (.getfield 43, 3) := by decide +kernel
theorem dX5_moveTo_45 : decode cX5_moveTo 45 = .ok (.aload_n 0, 1) := by decide +kernel
theorem dX5_moveTo_46 : decode cX5_moveTo 46 = .ok (.getfield 71, 3) := by decide +kernel
theorem dX5_moveTo_49 : decode cX5_moveTo 49 = .ok (.aload_n 0, 1) := by decide +kernel
theorem dX5_moveTo_50 : decode cX5_moveTo 50 = .ok (.getfield 62, 3) := by decide +kernel
theorem dX5_moveTo_53 : decode cX5_moveTo 53 = .ok (.bipush 100, 2) := by decide +kernel
theorem dX5_moveTo_55 : decode cX5_moveTo 55 = .ok (.imul, 1) := by decide +kernel
theorem dX5_moveTo_56 : decode cX5_moveTo 56 = .ok (.iload_n 1, 1) := by decide +kernel
theorem dX5_moveTo_57 : decode cX5_moveTo 57 = .ok (.bipush 10, 2) := by decide +kernel
theorem dX5_moveTo_59 : decode cX5_moveTo 59 = .ok (.imul, 1) := by decide +kernel
theorem dX5_moveTo_60 : decode cX5_moveTo 60 = .ok (.iadd, 1) := by decide +kernel
theorem dX5_moveTo_61 : decode cX5_moveTo 61 = .ok (.iload_n 2, 1) := by decide +kernel
theorem dX5_moveTo_62 : decode cX5_moveTo 62 = .ok (.iadd, 1) := by decide +kernel
theorem dX5_moveTo_63 : decode cX5_moveTo 63 = .ok (.iastore, 1) := by decide +kernel
theorem dX5_moveTo_64 : decode cX5_moveTo 64 = .ok (.aload_n 0, 1) := by decide +kernel
theorem dX5_moveTo_65 : decode cX5_moveTo 65 = .ok (.dup, 1) := by decide +kernel
theorem dX5_moveTo_66 : decode cX5_moveTo 66 = .ok (.getfield 71, 3) := by decide +kernel
theorem dX5_moveTo_69 : decode cX5_moveTo 69 = .ok (.iconst 1, 1) := by decide +kernel
theorem dX5_moveTo_70 : decode cX5_moveTo 70 = .ok (.iadd, 1) := by decide +kernel
theorem dX5_moveTo_71 : decode cX5_moveTo 71 = .ok (.putfield 71, 3) := by decide +kernel
theorem dX5_moveTo_74 : decode cX5_moveTo 74 = .ok (.return_, 1) := by decide +kernel
theorem dX5_shipsOn_0 : decode cX5_shipsOn 0 = .ok (.iconst 0, 1) := by decide +kernel
theorem dX5_shipsOn_1 : decode cX5_shipsOn 1 = .ok (.istore_n 2, 1) := by decide +kernel
theorem dX5_shipsOn_2 : decode cX5_shipsOn 2 = .ok (.iconst 0, 1) := by decide +kernel
theorem dX5_shipsOn_3 : decode cX5_shipsOn 3 = .ok (.istore_n 3, 1) := by decide +kernel
theorem dX5_shipsOn_4 : decode cX5_shipsOn 4 = .ok (.iload_n 3, 1) := by decide +kernel
theorem dX5_shipsOn_5 : decode cX5_shipsOn 5 = .ok (.aload_n 0, 1) := by decide +kernel
theorem dX5_shipsOn_6 : decode cX5_shipsOn 6 = .ok (.getfield 49, 3) := by decide +kernel
theorem dX5_shipsOn_9 : decode cX5_shipsOn 9 = .ok (.if_icmp .ge 25, 3) := by decide +kernel
theorem dX5_shipsOn_12 : decode cX5_shipsOn 12 = .ok (.aload_n 0, 1) := by decide +kernel
theorem dX5_shipsOn_13 : decode cX5_shipsOn 13 = .ok (.getfield 30, 3) := by decide +kernel
theorem dX5_shipsOn_16 : decode cX5_shipsOn 16 = .ok (.iload_n 3, 1) := by decide +kernel
theorem dX5_shipsOn_17 : decode cX5_shipsOn 17 = .ok (.iaload, 1) := by decide +kernel
theorem dX5_shipsOn_18 : decode cX5_shipsOn 18 = .ok (.iload_n 1, 1) := by decide +kernel
theorem dX5_shipsOn_19 : decode cX5_shipsOn 19 = .ok (.if_icmp .ne 9, 3) := by decide +kernel
theorem dX5_shipsOn_22 : decode cX5_shipsOn 22 = .ok (.iload_n 2, 1) := by decide +kernel
theorem dX5_shipsOn_23 : decode cX5_shipsOn 23 = .ok (.iconst 1, 1) := by decide +kernel
theorem dX5_shipsOn_24 : decode cX5_shipsOn 24 = .ok (.iload_n 3, 1) := by decide +kernel
theorem dX5_shipsOn_25 : decode cX5_shipsOn 25 = .ok (.ishl, 1) := by decide +kernel
theorem dX5_shipsOn_26 : decode cX5_shipsOn 26 = .ok (.ior, 1) := by decide +kernel
theorem dX5_shipsOn_27 : decode cX5_shipsOn 27 = .ok (.istore_n 2, 1) := by decide +kernel
theorem dX5_shipsOn_28 : decode cX5_shipsOn 28 = .ok (.iinc 3 1, 3) := by decide +kernel
theorem dX5_shipsOn_31 : decode cX5_shipsOn 31 = .ok (.goto (-27), 3) := by decide +kernel
theorem dX5_shipsOn_34 : decode cX5_shipsOn 34 = .ok (.iload_n 2, 1) := by decide +kernel
theorem dX5_shipsOn_35 : decode cX5_shipsOn 35 = .ok (.ireturn, 1) := by decide +kernel
theorem dX5_bound_0 : decode cX5_bound 0 = .ok (.iconst 0, 1) := by decide +kernel
theorem dX5_bound_1 : decode cX5_bound 1 = .ok (.istore_n 3, 1) := by decide +kernel
theorem dX5_bound_2 : decode cX5_bound 2 = .ok (.iconst 0, 1) := by decide +kernel
theorem dX5_bound_3 : decode cX5_bound 3 = .ok (.istore 4, 2) := by decide +kernel
theorem dX5_bound_5 : decode cX5_bound 5 = .ok (.iload 4, 2) := by decide +kernel
theorem dX5_bound_7 : decode cX5_bound 7 = .ok (.aload_n 0, 1) := by decide +kernel
theorem dX5_bound_8 : decode cX5_bound 8 = .ok (.getfield 49, 3) := by decide +kernel
theorem dX5_bound_11 : decode cX5_bound 11 = .ok (.if_icmp .ge 56, 3) := by decide +kernel
theorem dX5_bound_14 : decode cX5_bound 14 = .ok (.aload_n 0, 1) := by decide +kernel
theorem dX5_bound_15 : decode cX5_bound 15 = .ok (.getfield 30, 3) := by decide +kernel
theorem dX5_bound_18 : decode cX5_bound 18 = .ok (.iload 4, 2) := by decide +kernel
theorem dX5_bound_20 : decode cX5_bound 20 = .ok (.iaload, 1) := by decide +kernel
theorem dX5_bound_21 : decode cX5_bound 21 = .ok (.iload_n 1, 1) := by decide +kernel
theorem dX5_bound_22 : decode cX5_bound 22 = .ok (.if_icmp .ne 39, 3) := by decide +kernel
theorem dX5_bound_25 : decode cX5_bound 25 = .ok (.iload_n 2, 1) := by decide +kernel
theorem dX5_bound_26 : decode cX5_bound 26 = .ok (.ifCond .eq 17, 3) := by decide +kernel
theorem dX5_bound_29 : decode cX5_bound 29 = .ok (.aload_n 0, 1) := by decide +kernel
theorem dX5_bound_30 : decode cX5_bound 30 = .ok (.getfield 33, 3) := by decide +kernel
theorem dX5_bound_33 : decode cX5_bound 33 = .ok (.iload 4, 2) := by decide +kernel
theorem dX5_bound_35 : decode cX5_bound 35 = .ok (.iaload, 1) := by decide +kernel
theorem dX5_bound_36 : decode cX5_bound 36 = .ok (.iload_n 1, 1) := by decide +kernel
theorem dX5_bound_37 : decode cX5_bound 37 = .ok (.if_icmp .le 24, 3) := by decide +kernel
theorem dX5_bound_40 : decode cX5_bound 40 = .ok (.goto 14, 3) := by decide +kernel
theorem dX5_bound_43 : decode cX5_bound 43 = .ok (.aload_n 0, 1) := by decide +kernel
theorem dX5_bound_44 : decode cX5_bound 44 = .ok (.getfield 33, 3) := by decide +kernel
theorem dX5_bound_47 : decode cX5_bound 47 = .ok (.iload 4, 2) := by decide +kernel
theorem dX5_bound_49 : decode cX5_bound 49 = .ok (.iaload, 1) := by decide +kernel
theorem dX5_bound_50 : decode cX5_bound 50 = .ok (.iload_n 1, 1) := by decide +kernel
theorem dX5_bound_51 : decode cX5_bound 51 = .ok (.if_icmp .ge 10, 3) := by decide +kernel
theorem dX5_bound_54 : decode cX5_bound 54 = .ok (.iload_n 3, 1) := by decide +kernel
theorem dX5_bound_55 : decode cX5_bound 55 = .ok (.iconst 1, 1) := by decide +kernel
theorem dX5_bound_56 : decode cX5_bound 56 = .ok (.iload 4, 2) := by decide +kernel
theorem dX5_bound_58 : decode cX5_bound 58 = .ok (.ishl, 1) := by decide +kernel
theorem dX5_bound_59 : decode cX5_bound 59 = .ok (.ior, 1) := by decide +kernel
theorem dX5_bound_60 : decode cX5_bound 60 = .ok (.istore_n 3, 1) := by decide +kernel
theorem dX5_bound_61 : decode cX5_bound 61 = .ok (.iinc 4 1, 3) := by decide +kernel
theorem dX5_bound_64 : decode cX5_bound 64 = .ok (.goto (-59), 3) := by decide +kernel
theorem dX5_bound_67 : decode cX5_bound 67 = .ok (.iload_n 3, 1) := by decide +kernel
theorem dX5_bound_68 : decode cX5_bound 68 = .ok (.ireturn, 1) := by decide +kernel
theorem dX5_onGoals_0 : decode cX5_onGoals 0 = .ok (.iconst 0, 1) := by decide +kernel
theorem dX5_onGoals_1 : decode cX5_onGoals 1 = .ok (.istore_n 1, 1) := by decide +kernel
theorem dX5_onGoals_2 : decode cX5_onGoals 2 = .ok (.iconst 0, 1) := by decide +kernel
theorem dX5_onGoals_3 : decode cX5_onGoals 3 = .ok (.istore_n 2, 1) := by decide +kernel
theorem dX5_onGoals_4 : decode cX5_onGoals 4 = .ok (.iload_n 2, 1) := by decide +kernel
theorem dX5_onGoals_5 : decode cX5_onGoals 5 = .ok (.aload_n 0, 1) := by decide +kernel
theorem dX5_onGoals_6 : decode cX5_onGoals 6 = .ok (.getfield 49, 3) := by decide +kernel
theorem dX5_onGoals_9 : decode cX5_onGoals 9 = .ok (.if_icmp .ge 30, 3) := by decide +kernel
theorem dX5_onGoals_12 : decode cX5_onGoals 12 = .ok (.aload_n 0, 1) := by decide +kernel
theorem dX5_onGoals_13 : decode cX5_onGoals 13 = .ok (.getfield 30, 3) := by decide +kernel
theorem dX5_onGoals_16 : decode cX5_onGoals 16 = .ok (.iload_n 2, 1) := by decide +kernel
theorem dX5_onGoals_17 : decode cX5_onGoals 17 = .ok (.iaload, 1) := by decide +kernel
theorem dX5_onGoals_18 : decode cX5_onGoals 18 = .ok (.aload_n 0, 1) := by decide +kernel
theorem dX5_onGoals_19 : decode cX5_onGoals 19 = .ok (.getfield 33, 3) := by decide +kernel
theorem dX5_onGoals_22 : decode cX5_onGoals 22 = .ok (.iload_n 2, 1) := by decide +kernel
theorem dX5_onGoals_23 : decode cX5_onGoals 23 = .ok (.iaload, 1) := by decide +kernel
theorem dX5_onGoals_24 : decode cX5_onGoals 24 = .ok (.if_icmp .ne 9, 3) := by decide +kernel
theorem dX5_onGoals_27 : decode cX5_onGoals 27 = .ok (.iload_n 1, 1) := by decide +kernel
theorem dX5_onGoals_28 : decode cX5_onGoals 28 = .ok (.iconst 1, 1) := by decide +kernel
theorem dX5_onGoals_29 : decode cX5_onGoals 29 = .ok (.iload_n 2, 1) := by decide +kernel
theorem dX5_onGoals_30 : decode cX5_onGoals 30 = .ok (.ishl, 1) := by decide +kernel
theorem dX5_onGoals_31 : decode cX5_onGoals 31 = .ok (.ior, 1) := by decide +kernel
theorem dX5_onGoals_32 : decode cX5_onGoals 32 = .ok (.istore_n 1, 1) := by decide +kernel
theorem dX5_onGoals_33 : decode cX5_onGoals 33 = .ok (.iinc 2 1, 3) := by decide +kernel
theorem dX5_onGoals_36 : decode cX5_onGoals 36 = .ok (.goto (-32), 3) := by decide +kernel
theorem dX5_onGoals_39 : decode cX5_onGoals 39 = .ok (.iload_n 1, 1) := by decide +kernel
theorem dX5_onGoals_40 : decode cX5_onGoals 40 = .ok (.ireturn, 1) := by decide +kernel
theorem dX6_init_0 : decode cX6_init 0 = .ok (.aload_n 0, 1) := by decide +kernel
theorem dX6_init_1 : decode cX6_init 1 = .ok (.invokespecial 3, 3) := by decide +kernel
theorem dX6_init_4 : decode cX6_init 4 = .ok (.aload_n 0, 1) := by decide +kernel
theorem dX6_init_5 : decode cX6_init 5 = .ok (.bipush 24, 2) := by decide +kernel
theorem dX6_init_7 : decode cX6_init 7 = .ok (.newarray .int, 2) := by decide +kernel
theorem dX6_init_9 : decode cX6_init 9 = .ok (.putfield 9, 3) := by decide +kernel
theorem dX6_init_12 : decode cX6_init 12 = .ok (.aload_n 0, 1) := by decide +kernel
theorem dX6_init_13 : decode cX6_init 13 = .ok (.bipush 96, 2) := by decide +kernel
theorem dX6_init_15 : decode cX6_init 15 = .ok (.newarray .int, 2) := by decide +kernel
theorem dX6_init_17 : decode cX6_init 17 = .ok (.putfield 15, 3) := by decide +kernel
theorem dX6_init_20 : decode cX6_init 20 = .ok (.aload_n 0, 1) := by decide +kernel
theorem dX6_init_21 : decode cX6_init 21 = .ok (.sipush 300, 3) := by decide +kernel
theorem dX6_init_24 : decode cX6_init 24 = .ok (.newarray .int, 2) := by decide +kernel
theorem dX6_init_26 : decode cX6_init 26 = .ok (.putfield 18, 3) := by decide +kernel
theorem dX6_init_29 : decode cX6_init 29 = .ok (.aload_n 0, 1) := by decide +kernel
theorem dX6_init_30 : decode cX6_init 30 = .ok (.sipush 300, 3) := by decide +kernel
theorem dX6_init_33 : decode cX6_init 33 = .ok (.newarray .int, 2) := by decide +kernel
theorem dX6_init_35 : decode cX6_init 35 = .ok (.putfield 21, 3) := by decide +kernel
theorem dX6_init_38 : decode cX6_init 38 = .ok (.aload_n 0, 1) := by decide +kernel
theorem dX6_init_39 : decode cX6_init 39 = .ok (.iconst 5, 1) := by decide +kernel
theorem dX6_init_40 : decode cX6_init 40 = .ok (.newarray .int, 2) := by decide +kernel
theorem dX6_init_42 : decode cX6_init 42 = .ok (.putfield 24, 3) := by decide +kernel
theorem dX6_init_45 : decode cX6_init 45 = .ok (.aload_n 0, 1) := by decide +kernel
theorem dX6_init_46 : decode cX6_init 46 = .ok (.iconst 5, 1) := by decide +kernel
theorem dX6_init_47 : decode cX6_init 47 = .ok (.newarray .int, 2) := by decide +kernel
theorem dX6_init_49 : decode cX6_init 49 = .ok (.putfield 27, 3) := by decide +kernel
theorem dX6_init_52 : decode cX6_init 52 = .ok (.return_, 1) := by decide +kernel
theorem dX6_empty_0 : decode cX6_empty 0 = .ok (.aload_n 0, 1) := by decide +kernel
theorem dX6_empty_1 : decode cX6_empty 1 = .ok (.iconst 0, 1) := by decide +kernel
theorem dX6_empty_2 : decode cX6_empty 2 = .ok (.putfield 30, 3) := by decide +kernel
theorem dX6_empty_5 : decode cX6_empty 5 = .ok (.aload_n 0, 1) := by decide +kernel
theorem dX6_empty_6 : decode cX6_empty 6 = .ok (.iconst 0, 1) := by decide +kernel
theorem dX6_empty_7 : decode cX6_empty 7 = .ok (.putfield 34, 3) := by decide +kernel
theorem dX6_empty_10 : decode cX6_empty 10 = .ok (.iconst 0, 1) := by decide +kernel
theorem dX6_empty_11 : decode cX6_empty 11 = .ok (.istore_n 1, 1) := by decide +kernel
theorem dX6_empty_12 : decode cX6_empty 12 = .ok (.iload_n 1, 1) := by decide +kernel
theorem dX6_empty_13 : decode cX6_empty 13 = .ok (.iconst 5, 1) := by decide +kernel
theorem dX6_empty_14 : decode cX6_empty 14 = .ok (.if_icmp .ge 23, 3) := by decide +kernel
theorem dX6_empty_17 : decode cX6_empty 17 = .ok (.aload_n 0, 1) := by decide +kernel
theorem dX6_empty_18 : decode cX6_empty 18 = .ok (.getfield 24, 3) := by decide +kernel
theorem dX6_empty_21 : decode cX6_empty 21 = .ok (.iload_n 1, 1) := by decide +kernel
theorem dX6_empty_22 : decode cX6_empty 22 = .ok (.iconst 0, 1) := by decide +kernel
theorem dX6_empty_23 : decode cX6_empty 23 = .ok (.iastore, 1) := by decide +kernel
theorem dX6_empty_24 : decode cX6_empty 24 = .ok (.aload_n 0, 1) := by decide +kernel
theorem dX6_empty_25 : decode cX6_empty 25 = .ok (.getfield 27, 3) := by decide +kernel
theorem dX6_empty_28 : decode cX6_empty 28 = .ok (.iload_n 1, 1) := by decide +kernel
theorem dX6_empty_29 : decode cX6_empty 29 = .ok (.iconst 0, 1) := by decide +kernel
theorem dX6_empty_30 : decode cX6_empty 30 = .ok (.iastore, 1) := by decide +kernel
theorem dX6_empty_31 : decode cX6_empty 31 = .ok (.iinc 1 1, 3) := by decide +kernel
theorem dX6_empty_34 : decode cX6_empty 34 = .ok (.goto (-22), 3) := by decide +kernel
theorem dX6_empty_37 : decode cX6_empty 37 = .ok (.return_, 1) := by decide +kernel
theorem dX6_hasLaw_0 : decode cX6_hasLaw 0 = .ok (.iload_n 1, 1) := by decide +kernel
theorem dX6_hasLaw_1 : decode cX6_hasLaw 1 = .ok (.ifCond .lt 27, 3) := by decide +kernel
theorem dX6_hasLaw_4 : decode cX6_hasLaw 4 = .ok (.iload_n 1, 1) := by decide +kernel
theorem dX6_hasLaw_5 : decode cX6_hasLaw 5 = .ok (.iconst 5, 1) := by decide +kernel
theorem dX6_hasLaw_6 : decode cX6_hasLaw 6 = .ok (.if_icmp .ge 22, 3) := by decide +kernel
theorem dX6_hasLaw_9 : decode cX6_hasLaw 9 = .ok (.aload_n 0, 1) := by decide +kernel
theorem dX6_hasLaw_10 : decode cX6_hasLaw 10 = .ok (.getfield 24, 3) := by decide +kernel
theorem dX6_hasLaw_13 : decode cX6_hasLaw 13 = .ok (.iload_n 1, 1) := by decide +kernel
theorem dX6_hasLaw_14 : decode cX6_hasLaw 14 = .ok (.iaload, 1) := by decide +kernel
theorem dX6_hasLaw_15 : decode cX6_hasLaw 15 = .ok (.aload_n 0, 1) := by decide +kernel
theorem dX6_hasLaw_16 : decode cX6_hasLaw 16 = .ok (.getfield 27, 3) := by decide +kernel
theorem dX6_hasLaw_19 : decode cX6_hasLaw 19 = .ok (.iload_n 1, 1) := by decide +kernel
theorem dX6_hasLaw_20 : decode cX6_hasLaw 20 = .ok (.iaload, 1) := by decide +kernel
theorem dX6_hasLaw_21 : decode cX6_hasLaw 21 = .ok (.if_icmp .ge 7, 3) := by decide +kernel
theorem dX6_hasLaw_24 : decode cX6_hasLaw 24 = .ok (.iconst 1, 1) := by decide +kernel
theorem dX6_hasLaw_25 : decode cX6_hasLaw 25 = .ok (.goto 4, 3) := by decide +kernel
theorem dX6_hasLaw_28 : decode cX6_hasLaw 28 = .ok (.iconst 0, 1) := by decide +kernel
theorem dX6_hasLaw_29 : decode cX6_hasLaw 29 = .ok (.ireturn, 1) := by decide +kernel
theorem dX6_numberOf_0 : decode cX6_numberOf 0 = .ok (.aload_n 0, 1) := by decide +kernel
theorem dX6_numberOf_1 : decode cX6_numberOf 1 = .ok (.getfield 15, 3) := by decide +kernel
theorem dX6_numberOf_4 : decode cX6_numberOf 4 = .ok (.iload_n 1, 1) := by decide +kernel
theorem dX6_numberOf_5 : decode cX6_numberOf 5 = .ok (.iconst 4, 1) := by decide +kernel
theorem dX6_numberOf_6 : decode cX6_numberOf 6 = .ok (.imul, 1) := by decide +kernel
theorem dX6_numberOf_7 : decode cX6_numberOf 7 = .ok (.iload_n 2, 1) := by decide +kernel
theorem dX6_numberOf_8 : decode cX6_numberOf 8 = .ok (.iadd, 1) := by decide +kernel
theorem dX6_numberOf_9 : decode cX6_numberOf 9 = .ok (.iaload, 1) := by decide +kernel
theorem dX6_numberOf_10 : decode cX6_numberOf 10 = .ok (.ireturn, 1) := by decide +kernel
theorem dX6_addCode_0 : decode cX6_addCode 0 = .ok (.aload_n 0, 1) := by decide +kernel
theorem dX6_addCode_1 : decode cX6_addCode 1 = .ok (.getfield 34, 3) := by decide +kernel
theorem dX6_addCode_4 : decode cX6_addCode 4 = .ok (.sipush 300, 3) := by decide +kernel
theorem dX6_addCode_7 : decode cX6_addCode 7 = .ok (.if_icmp .ge 33, 3) := by decide +kernel
theorem dX6_addCode_10 : decode cX6_addCode 10 = .ok (.aload_n 0, 1) := by decide +kernel
theorem dX6_addCode_11 : decode cX6_addCode 11 = .ok (.getfield 18, 3) := by decide +kernel
theorem dX6_addCode_14 : decode cX6_addCode 14 = .ok (.aload_n 0, 1) := by decide +kernel
theorem dX6_addCode_15 : decode cX6_addCode 15 = .ok (.getfield 34, 3) := by decide +kernel
theorem dX6_addCode_18 : decode cX6_addCode 18 = .ok (.iload_n 1, 1) := by decide +kernel
theorem dX6_addCode_19 : decode cX6_addCode 19 = .ok (.iastore, 1) := by decide +kernel
theorem dX6_addCode_20 : decode cX6_addCode 20 = .ok (.aload_n 0, 1) := by decide +kernel
theorem dX6_addCode_21 : decode cX6_addCode 21 = .ok (.getfield 21, 3) := by decide +kernel
theorem dX6_addCode_24 : decode cX6_addCode 24 = .ok (.aload_n 0, 1) := by decide +kernel
theorem dX6_addCode_25 : decode cX6_addCode 25 = .ok (.getfield 34, 3) := by decide +kernel
theorem dX6_addCode_28 : decode cX6_addCode 28 = .ok (.iload_n 2, 1) := by decide +kernel
theorem dX6_addCode_29 : decode cX6_addCode 29 = .ok (.iastore, 1) := by decide +kernel
theorem dX6_addCode_30 : decode cX6_addCode 30 = .ok (.aload_n 0, 1) := by decide +kernel
theorem dX6_addCode_31 : decode cX6_addCode 31 = .ok (.dup, 1) := by decide +kernel
theorem dX6_addCode_32 : decode cX6_addCode 32 = .ok (.getfield 34, 3) := by decide +kernel
theorem dX6_addCode_35 : decode cX6_addCode 35 = .ok (.iconst 1, 1) := by decide +kernel
theorem dX6_addCode_36 : decode cX6_addCode 36 = .ok (.iadd, 1) := by decide +kernel
theorem dX6_addCode_37 : decode cX6_addCode 37 = .ok (.putfield 34, 3) := by decide +kernel
theorem dX6_addCode_40 : decode cX6_addCode 40 = .ok (.return_, 1) := by decide +kernel
theorem dX7_init_0 : decode cX7_init 0 = .ok (.aload_n 0, 1) := by decide +kernel
theorem dX7_init_1 : decode cX7_init 1 = .ok (.invokespecial 3, 3) := by decide +kernel
theorem dX7_init_4 : decode cX7_init 4 = .ok (.aload_n 0, 1) := by decide +kernel
theorem dX7_init_5 : decode cX7_init 5 = .ok (.bipush 8, 2) := by decide +kernel
theorem dX7_init_7 : decode cX7_init 7 = .ok (.newarray .int, 2) := by decide +kernel
theorem dX7_init_9 : decode cX7_init 9 = .ok (.putfield 9, 3) := by decide +kernel
theorem dX7_init_12 : decode cX7_init 12 = .ok (.aload_n 0, 1) := by decide +kernel
theorem dX7_init_13 : decode cX7_init 13 = .ok (.bipush 8, 2) := by decide +kernel
theorem dX7_init_15 : decode cX7_init 15 = .ok (.newarray .int, 2) := by decide +kernel
theorem dX7_init_17 : decode cX7_init 17 = .ok (.putfield 15, 3) := by decide +kernel
theorem dX7_init_20 : decode cX7_init 20 = .ok (.aload_n 0, 1) := by decide +kernel
theorem dX7_init_21 : decode cX7_init 21 = .ok (.bipush 10, 2) := by decide +kernel
theorem dX7_init_23 : decode cX7_init 23 = .ok (.newarray .int, 2) := by decide +kernel
theorem dX7_init_25 : decode cX7_init 25 = .ok (.putfield 18, 3) := by decide +kernel
theorem dX7_init_28 : decode cX7_init 28 = .ok (.aload_n 0, 1) := by decide +kernel
theorem dX7_init_29 : decode cX7_init 29 = .ok (.bipush 10, 2) := by decide +kernel
theorem dX7_init_31 : decode cX7_init 31 = .ok (.newarray .int, 2) := by decide +kernel
theorem dX7_init_33 : decode cX7_init 33 = .ok (.putfield 21, 3) := by decide +kernel
theorem dX7_init_36 : decode cX7_init 36 = .ok (.aload_n 0, 1) := by decide +kernel
theorem dX7_init_37 : decode cX7_init 37 = .ok (.bipush 15, 2) := by decide +kernel
theorem dX7_init_39 : decode cX7_init 39 = .ok (.newarray .int, 2) := by decide +kernel
theorem dX7_init_41 : decode cX7_init 41 = .ok (.putfield 24, 3) := by decide +kernel
theorem dX7_init_44 : decode cX7_init 44 = .ok (.return_, 1) := by decide +kernel
theorem dX7_copyFrom_0 : decode cX7_copyFrom 0 = .ok (.aload_n 0, 1) := by decide +kernel
theorem dX7_copyFrom_1 : decode cX7_copyFrom 1 = .ok (.aload_n 1, 1) := by decide +kernel
theorem dX7_copyFrom_2 : decode cX7_copyFrom 2 = .ok (.getfield 27, 3) := by decide +kernel
theorem dX7_copyFrom_5 : decode cX7_copyFrom 5 = .ok (.putfield 27, 3) := by decide +kernel
theorem dX7_copyFrom_8 : decode cX7_copyFrom 8 = .ok (.aload_n 1, 1) := by decide +kernel
theorem dX7_copyFrom_9 : decode cX7_copyFrom 9 = .ok (.getfield 9, 3) := by decide +kernel
theorem dX7_copyFrom_12 : decode cX7_copyFrom 12 = .ok (.iconst 0, 1) := by decide +kernel
theorem dX7_copyFrom_13 : decode cX7_copyFrom 13 = .ok (.aload_n 0, 1) := by decide +kernel
theorem dX7_copyFrom_14 : decode cX7_copyFrom 14 = .ok (.getfield 9, 3) := by decide +kernel
theorem dX7_copyFrom_17 : decode cX7_copyFrom 17 = .ok (.iconst 0, 1) := by decide +kernel
theorem dX7_copyFrom_18 : decode cX7_copyFrom 18 = .ok (.bipush 8, 2) := by decide +kernel
theorem dX7_copyFrom_20 : decode cX7_copyFrom 20 = .ok (.invokestatic 31, 3) := by decide +kernel
theorem dX7_copyFrom_23 : decode cX7_copyFrom 23 = .ok (.aload_n 1, 1) := by decide +kernel
theorem dX7_copyFrom_24 : decode cX7_copyFrom 24 = .ok (.getfield 15, 3) := by decide +kernel
theorem dX7_copyFrom_27 : decode cX7_copyFrom 27 = .ok (.iconst 0, 1) := by decide +kernel
theorem dX7_copyFrom_28 : decode cX7_copyFrom 28 = .ok (.aload_n 0, 1) := by decide +kernel
theorem dX7_copyFrom_29 : decode cX7_copyFrom 29 = .ok (.getfield 15, 3) := by decide +kernel
theorem dX7_copyFrom_32 : decode cX7_copyFrom 32 = .ok (.iconst 0, 1) := by decide +kernel
theorem dX7_copyFrom_33 : decode cX7_copyFrom 33 = .ok (.bipush 8, 2) := by decide +kernel
theorem dX7_copyFrom_35 : decode cX7_copyFrom 35 = .ok (.invokestatic 31, 3) := by decide +kernel
theorem dX7_copyFrom_38 : decode cX7_copyFrom 38 = .ok (.aload_n 0, 1) := by decide +kernel
theorem dX7_copyFrom_39 : decode cX7_copyFrom 39 = .ok (.aload_n 1, 1) := by decide +kernel
theorem dX7_copyFrom_40 : decode cX7_copyFrom 40 = .ok (.getfield 37, 3) := by decide +kernel
theorem dX7_copyFrom_43 : decode cX7_copyFrom 43 = .ok (.putfield 37, 3) := by decide +kernel
theorem dX7_copyFrom_46 : decode cX7_copyFrom 46 = .ok (.aload_n 1, 1) := by decide +kernel
theorem dX7_copyFrom_47 : decode cX7_copyFrom 47 = .ok (.getfield 18, 3) := by decide +kernel
theorem dX7_copyFrom_50 : decode cX7_copyFrom 50 = .ok (.iconst 0, 1) := by decide +kernel
theorem dX7_copyFrom_51 : decode cX7_copyFrom 51 = .ok (.aload_n 0, 1) := by decide +kernel
theorem dX7_copyFrom_52 : decode cX7_copyFrom 52 = .ok (.getfield 18, 3) := by decide +kernel
theorem dX7_copyFrom_55 : decode cX7_copyFrom 55 = .ok (.iconst 0, 1) := by decide +kernel
theorem dX7_copyFrom_56 : decode cX7_copyFrom 56 = .ok (.bipush 10, 2) := by decide +kernel
theorem dX7_copyFrom_58 : decode cX7_copyFrom 58 = .ok (.invokestatic 31, 3) := by decide +kernel
theorem dX7_copyFrom_61 : decode cX7_copyFrom 61 = .ok (.aload_n 0, 1) := by decide +kernel
theorem dX7_copyFrom_62 : decode cX7_copyFrom 62 = .ok (.aload_n 1, 1) := by decide +kernel
theorem dX7_copyFrom_63 : decode cX7_copyFrom 63 = .ok (.getfield 40, 3) := by decide +kernel
theorem dX7_copyFrom_66 : decode cX7_copyFrom 66 = .ok (.putfield 40, 3) := by decide +kernel
theorem dX7_copyFrom_69 : decode cX7_copyFrom 69 = .ok (.aload_n 1, 1) := by decide +kernel
theorem dX7_copyFrom_70 : decode cX7_copyFrom 70 = .ok (.getfield 24, 3) := by decide +kernel
theorem dX7_copyFrom_73 : decode cX7_copyFrom 73 = .ok (.iconst 0, 1) := by decide +kernel
theorem dX7_copyFrom_74 : decode cX7_copyFrom 74 = .ok (.aload_n 0, 1) := by decide +kernel
theorem dX7_copyFrom_75 : decode cX7_copyFrom 75 = .ok (.getfield 24, 3) := by decide +kernel
theorem dX7_copyFrom_78 : decode cX7_copyFrom 78 = .ok (.iconst 0, 1) := by decide +kernel
theorem dX7_copyFrom_79 : decode cX7_copyFrom 79 = .ok (.bipush 15, 2) := by decide +kernel
theorem dX7_copyFrom_81 : decode cX7_copyFrom 81 = .ok (.invokestatic 31, 3) := by decide +kernel
theorem dX7_copyFrom_84 : decode cX7_copyFrom 84 = .ok (.return_, 1) := by decide +kernel
theorem dX7_addSound_0 : decode cX7_addSound 0 = .ok (.aload_n 0, 1) := by decide +kernel
theorem dX7_addSound_1 : decode cX7_addSound 1 = .ok (.getfield 27, 3) := by decide +kernel
theorem dX7_addSound_4 : decode cX7_addSound 4 = .ok (.bipush 8, 2) := by decide +kernel
theorem dX7_addSound_6 : decode cX7_addSound 6 = .ok (.if_icmp .ge 33, 3) := by decide +kernel
theorem dX7_addSound_9 : decode cX7_addSound 9 = .ok (.aload_n 0, 1) := by decide +kernel
theorem dX7_addSound_10 : decode cX7_addSound 10 = .ok (.getfield 9, 3) := by decide +kernel
theorem dX7_addSound_13 : decode cX7_addSound 13 = .ok (.aload_n 0, 1) := by decide +kernel
theorem dX7_addSound_14 : decode cX7_addSound 14 = .ok (.getfield 27, 3) := by decide +kernel
theorem dX7_addSound_17 : decode cX7_addSound 17 = .ok (.iload_n 1, 1) := by decide +kernel
theorem dX7_addSound_18 : decode cX7_addSound 18 = .ok (.iastore, 1) := by decide +kernel
theorem dX7_addSound_19 : decode cX7_addSound 19 = .ok (.aload_n 0, 1) := by decide +kernel
theorem dX7_addSound_20 : decode cX7_addSound 20 = .ok (.getfield 15, 3) := by decide +kernel
theorem dX7_addSound_23 : decode cX7_addSound 23 = .ok (.aload_n 0, 1) := by decide +kernel
theorem dX7_addSound_24 : decode cX7_addSound 24 = .ok (.getfield 27, 3) := by decide +kernel
theorem dX7_addSound_27 : decode cX7_addSound 27 = .ok (.iload_n 2, 1) := by decide +kernel
theorem dX7_addSound_28 : decode cX7_addSound 28 = .ok (.iastore, 1) := by decide +kernel
theorem dX7_addSound_29 : decode cX7_addSound 29 = .ok (.aload_n 0, 1) := by decide +kernel
theorem dX7_addSound_30 : decode cX7_addSound 30 = .ok (.dup, 1) := by decide +kernel
theorem dX7_addSound_31 : decode cX7_addSound 31 = .ok (.getfield 27, 3) := by decide +kernel
theorem dX7_addSound_34 : decode cX7_addSound 34 = .ok (.iconst 1, 1) := by decide +kernel
theorem dX7_addSound_35 : decode cX7_addSound 35 = .ok (.iadd, 1) := by decide +kernel
theorem dX7_addSound_36 : decode cX7_addSound 36 = .ok (.putfield 27, 3) := by decide +kernel
theorem dX7_addSound_39 : decode cX7_addSound 39 = .ok (.return_, 1) := by decide +kernel
theorem dX7_addWreck_0 : decode cX7_addWreck 0 = .ok (.aload_n 0, 1) := by decide +kernel
theorem dX7_addWreck_1 : decode cX7_addWreck 1 = .ok (.getfield 37, 3) := by decide +kernel
theorem dX7_addWreck_4 : decode cX7_addWreck 4 = .ok (.bipush 10, 2) := by decide +kernel
theorem dX7_addWreck_6 : decode cX7_addWreck 6 = .ok (.if_icmp .ge 23, 3) := by decide +kernel
theorem dX7_addWreck_9 : decode cX7_addWreck 9 = .ok (.aload_n 0, 1) := by decide +kernel
theorem dX7_addWreck_10 : decode cX7_addWreck 10 = .ok (.getfield 18, 3) := by decide +kernel
theorem dX7_addWreck_13 : decode cX7_addWreck 13 = .ok (.aload_n 0, 1) := by decide +kernel
theorem dX7_addWreck_14 : decode cX7_addWreck 14 = .ok (.getfield 37, 3) := by decide +kernel
theorem dX7_addWreck_17 : decode cX7_addWreck 17 = .ok (.iload_n 1, 1) := by decide +kernel
theorem dX7_addWreck_18 : decode cX7_addWreck 18 = .ok (.iastore, 1) := by decide +kernel
theorem dX7_addWreck_19 : decode cX7_addWreck 19 = .ok (.aload_n 0, 1) := by decide +kernel
theorem dX7_addWreck_20 : decode cX7_addWreck 20 = .ok (.dup, 1) := by decide +kernel
theorem dX7_addWreck_21 : decode cX7_addWreck 21 = .ok (.getfield 37, 3) := by decide +kernel
theorem dX7_addWreck_24 : decode cX7_addWreck 24 = .ok (.iconst 1, 1) := by decide +kernel
theorem dX7_addWreck_25 : decode cX7_addWreck 25 = .ok (.iadd, 1) := by decide +kernel
theorem dX7_addWreck_26 : decode cX7_addWreck 26 = .ok (.putfield 37, 3) := by decide +kernel
theorem dX7_addWreck_29 : decode cX7_addWreck 29 = .ok (.return_, 1) := by decide +kernel
theorem dX7_addMisheard_0 : decode cX7_addMisheard 0 = .ok (.aload_n 0, 1) := by decide +kernel
theorem dX7_addMisheard_1 : decode cX7_addMisheard 1 = .ok (.getfield 40, 3) := by decide +kernel
theorem dX7_addMisheard_4 : decode cX7_addMisheard 4 = .ok (.bipush 15, 2) := by decide +kernel
theorem dX7_addMisheard_6 : decode cX7_addMisheard 6 = .ok (.if_icmp .ge 29, 3) := by decide +kernel
theorem dX7_addMisheard_9 : decode cX7_addMisheard 9 = .ok (.aload_n 0, 1) := by decide +kernel
theorem dX7_addMisheard_10 : decode cX7_addMisheard 10 = .ok (.getfield 24, 3) := by decide +kernel
theorem dX7_addMisheard_13 : decode cX7_addMisheard 13 = .ok (.aload_n 0, 1) := by decide +kernel
theorem dX7_addMisheard_14 : decode cX7_addMisheard 14 = .ok (.getfield 40, 3) := by decide +kernel
theorem dX7_addMisheard_17 : decode cX7_addMisheard 17 = .ok (.iconst 1, 1) := by decide +kernel
theorem dX7_addMisheard_18 : decode cX7_addMisheard 18 = .ok (.iload_n 1, 1) := by decide +kernel
theorem dX7_addMisheard_19 : decode cX7_addMisheard 19 = .ok (.ishl, 1) := by decide +kernel
theorem dX7_addMisheard_20 : decode cX7_addMisheard 20 = .ok (.iconst 1, 1) := by decide +kernel
theorem dX7_addMisheard_21 : decode cX7_addMisheard 21 = .ok (.iload_n 2, 1) := by decide +kernel
theorem dX7_addMisheard_22 : decode cX7_addMisheard 22 = .ok (.ishl, 1) := by decide +kernel
theorem dX7_addMisheard_23 : decode cX7_addMisheard 23 = .ok (.ior, 1) := by decide +kernel
theorem dX7_addMisheard_24 : decode cX7_addMisheard 24 = .ok (.iastore, 1) := by decide +kernel
theorem dX7_addMisheard_25 : decode cX7_addMisheard 25 = .ok (.aload_n 0, 1) := by decide +kernel
theorem dX7_addMisheard_26 : decode cX7_addMisheard 26 = .ok (.dup, 1) := by decide +kernel
theorem dX7_addMisheard_27 : decode cX7_addMisheard 27 = .ok (.getfield 40, 3) := by decide +kernel
theorem dX7_addMisheard_30 : decode cX7_addMisheard 30 = .ok (.iconst 1, 1) := by decide +kernel
theorem dX7_addMisheard_31 : decode cX7_addMisheard 31 = .ok (.iadd, 1) := by decide +kernel
theorem dX7_addMisheard_32 : decode cX7_addMisheard 32 = .ok (.putfield 40, 3) := by decide +kernel
theorem dX7_addMisheard_35 : decode cX7_addMisheard 35 = .ok (.return_, 1) := by decide +kernel
theorem dX7_mayBeHigh_0 : decode cX7_mayBeHigh 0 = .ok (.iconst 0, 1) := by decide +kernel
theorem dX7_mayBeHigh_1 : decode cX7_mayBeHigh 1 = .ok (.istore_n 3, 1) := by decide +kernel
theorem dX7_mayBeHigh_2 : decode cX7_mayBeHigh 2 = .ok (.iload_n 3, 1) := by decide +kernel
theorem dX7_mayBeHigh_3 : decode cX7_mayBeHigh 3 = .ok (.aload_n 0, 1) := by decide +kernel
theorem dX7_mayBeHigh_4 : decode cX7_mayBeHigh 4 = .ok (.getfield 27, 3) := by decide +kernel
theorem dX7_mayBeHigh_7 : decode cX7_mayBeHigh 7 = .ok (.if_icmp .ge 69, 3) := by decide +kernel
theorem dX7_mayBeHigh_10 : decode cX7_mayBeHigh 10 = .ok (.aload_n 0, 1) := by decide +kernel
theorem dX7_mayBeHigh_11 : decode cX7_mayBeHigh 11 = .ok (.getfield 15, 3) := by decide +kernel
theorem dX7_mayBeHigh_14 : decode cX7_mayBeHigh 14 = .ok (.iload_n 3, 1) := by decide +kernel
theorem dX7_mayBeHigh_15 : decode cX7_mayBeHigh 15 = .ok (.iaload, 1) := by decide +kernel
theorem dX7_mayBeHigh_16 : decode cX7_mayBeHigh 16 = .ok (.istore 4, 2) := by decide +kernel
theorem dX7_mayBeHigh_18 : decode cX7_mayBeHigh 18 = .ok (.iload 4, 2) := by decide +kernel
theorem dX7_mayBeHigh_20 : decode cX7_mayBeHigh 20 = .ok (.iload 4, 2) := by decide +kernel
theorem dX7_mayBeHigh_22 : decode cX7_mayBeHigh 22 = .ok (.imul, 1) := by decide +kernel
theorem dX7_mayBeHigh_23 : decode cX7_mayBeHigh 23 = .ok (.bipush 10, 2) := by decide +kernel
theorem dX7_mayBeHigh_25 : decode cX7_mayBeHigh 25 = .ok (.iload_n 2, 1) := by decide +kernel
theorem dX7_mayBeHigh_26 : decode cX7_mayBeHigh 26 = .ok (.imul, 1) := by decide +kernel
theorem dX7_mayBeHigh_27 : decode cX7_mayBeHigh 27 = .ok (.if_icmp .gt 23, 3) := by decide +kernel
theorem dX7_mayBeHigh_30 : decode cX7_mayBeHigh 30 = .ok (.bipush 10, 2) := by decide +kernel
theorem dX7_mayBeHigh_32 : decode cX7_mayBeHigh 32 = .ok (.iload_n 2, 1) := by decide +kernel
theorem dX7_mayBeHigh_33 : decode cX7_mayBeHigh 33 = .ok (.imul, 1) := by decide +kernel
theorem dX7_mayBeHigh_34 : decode cX7_mayBeHigh 34 = .ok (.iload 4, 2) := by decide +kernel
theorem dX7_mayBeHigh_36 : decode cX7_mayBeHigh 36 = .ok (.iconst 1, 1) := by decide +kernel
theorem dX7_mayBeHigh_37 : decode cX7_mayBeHigh 37 = .ok (.iadd, 1) := by decide +kernel
theorem dX7_mayBeHigh_38 : decode cX7_mayBeHigh 38 = .ok (.iload 4, 2) := by decide +kernel
theorem dX7_mayBeHigh_40 : decode cX7_mayBeHigh 40 = .ok (.iconst 1, 1) := by decide +kernel
theorem dX7_mayBeHigh_41 : decode cX7_mayBeHigh 41 = .ok (.iadd, 1) := by decide +kernel
theorem dX7_mayBeHigh_42 : decode cX7_mayBeHigh 42 = .ok (.imul, 1) := by decide +kernel
theorem dX7_mayBeHigh_43 : decode cX7_mayBeHigh 43 = .ok (.if_icmp .ge 7, 3) := by decide +kernel
theorem dX7_mayBeHigh_46 : decode cX7_mayBeHigh 46 = .ok (.iconst 1, 1) := by decide +kernel
theorem dX7_mayBeHigh_47 : decode cX7_mayBeHigh 47 = .ok (.goto 4, 3) := by decide +kernel
theorem dX7_mayBeHigh_50 : decode cX7_mayBeHigh 50 = .ok (.iconst 0, 1) := by decide +kernel
theorem dX7_mayBeHigh_51 : decode cX7_mayBeHigh 51 = .ok (.istore 5, 2) := by decide +kernel
theorem dX7_mayBeHigh_53 : decode cX7_mayBeHigh 53 = .ok (.aload_n 0, 1) := by decide +kernel
theorem dX7_mayBeHigh_54 : decode cX7_mayBeHigh 54 = .ok (.getfield 9, 3) := by decide +kernel
theorem dX7_mayBeHigh_57 : decode cX7_mayBeHigh 57 = .ok (.iload_n 3, 1) := by decide +kernel
theorem dX7_mayBeHigh_58 : decode cX7_mayBeHigh 58 = .ok (.iaload, 1) := by decide +kernel
theorem dX7_mayBeHigh_59 : decode cX7_mayBeHigh 59 = .ok (.iload_n 1, 1) := by decide +kernel
theorem dX7_mayBeHigh_60 : decode cX7_mayBeHigh 60 = .ok (.if_icmp .ne 10, 3) := by decide +kernel
theorem dX7_mayBeHigh_63 : decode cX7_mayBeHigh 63 = .ok (.iload 5, 2) := by decide +kernel
theorem dX7_mayBeHigh_65 : decode cX7_mayBeHigh 65 = .ok (.ifCond .ne 5, 3) := by decide +kernel
theorem dX7_mayBeHigh_68 : decode cX7_mayBeHigh 68 = .ok (.iconst 0, 1) := by decide +kernel
theorem dX7_mayBeHigh_69 : decode cX7_mayBeHigh 69 = .ok (.ireturn, 1) := by decide +kernel
theorem dX7_mayBeHigh_70 : decode cX7_mayBeHigh 70 = .ok (.iinc 3 1, 3) := by decide +kernel
theorem dX7_mayBeHigh_73 : decode cX7_mayBeHigh 73 = .ok (.goto (-71), 3) := by decide +kernel
theorem dX7_mayBeHigh_76 : decode cX7_mayBeHigh 76 = .ok (.iconst 1, 1) := by decide +kernel
theorem dX7_mayBeHigh_77 : decode cX7_mayBeHigh 77 = .ok (.ireturn, 1) := by decide +kernel
theorem dX7_measureRows_0 : decode cX7_measureRows 0 = .ok (.iconst 0, 1) := by decide +kernel
theorem dX7_measureRows_1 : decode cX7_measureRows 1 = .ok (.istore_n 1, 1) := by decide +kernel
theorem dX7_measureRows_2 : decode cX7_measureRows 2 = .ok (.aload_n 0, 1) := by decide +kernel
theorem dX7_measureRows_3 : decode cX7_measureRows 3 = .ok (.getfield 37, 3) := by decide +kernel
theorem dX7_measureRows_6 : decode cX7_measureRows 6 = .ok (.iconst 1, 1) := by decide +kernel
theorem dX7_measureRows_7 : decode cX7_measureRows 7 = .ok (.isub, 1) := by decide +kernel
theorem dX7_measureRows_8 : decode cX7_measureRows 8 = .ok (.istore_n 2, 1) := by decide +kernel
theorem dX7_measureRows_9 : decode cX7_measureRows 9 = .ok (.iload_n 2, 1) := by decide +kernel
theorem dX7_measureRows_10 : decode cX7_measureRows 10 = .ok (.ifCond .lt 83, 3) := by decide +kernel
theorem dX7_measureRows_13 : decode cX7_measureRows 13 = .ok (.aload_n 0, 1) := by decide +kernel
theorem dX7_measureRows_14 : decode cX7_measureRows 14 = .ok (.getfield 21, 3) := by decide +kernel
theorem dX7_measureRows_17 : decode cX7_measureRows 17 = .ok (.iload_n 2, 1) := by decide +kernel
theorem dX7_measureRows_18 : decode cX7_measureRows 18 = .ok (.iconst 1, 1) := by decide +kernel
theorem dX7_measureRows_19 : decode cX7_measureRows 19 = .ok (.iastore, 1) := by decide +kernel
theorem dX7_measureRows_20 : decode cX7_measureRows 20 = .ok (.iload_n 2, 1) := by decide +kernel
theorem dX7_measureRows_21 : decode cX7_measureRows 21 = .ok (.iconst 1, 1) := by decide +kernel
theorem dX7_measureRows_22 : decode cX7_measureRows 22 = .ok (.iadd, 1) := by decide +kernel
theorem dX7_measureRows_23 : decode cX7_measureRows 23 = .ok (.istore_n 3, 1) := by decide +kernel
theorem dX7_measureRows_24 : decode cX7_measureRows 24 = .ok (.iload_n 3, 1) := by decide +kernel
theorem dX7_measureRows_25 : decode cX7_measureRows 25 = .ok (.aload_n 0, 1) := by decide +kernel
theorem dX7_measureRows_26 : decode cX7_measureRows 26 = .ok (.getfield 37, 3) := by decide +kernel
theorem dX7_measureRows_29 : decode cX7_measureRows 29 = .ok (.if_icmp .ge 47, 3) := by decide +kernel
theorem dX7_measureRows_32 : decode cX7_measureRows 32 = .ok (.aload_n 0, 1) := by decide +kernel
theorem dX7_measureRows_33 : decode cX7_measureRows 33 = .ok (.getfield 18, 3) := by decide +kernel
theorem dX7_measureRows_36 : decode cX7_measureRows 36 = .ok (.iload_n 3, 1) := by decide +kernel
theorem dX7_measureRows_37 : decode cX7_measureRows 37 = .ok (.iaload, 1) := by decide +kernel
theorem dX7_measureRows_38 : decode cX7_measureRows 38 = .ok (.aload_n 0, 1) := by decide +kernel
theorem dX7_measureRows_39 : decode cX7_measureRows 39 = .ok (.getfield 18, 3) := by decide +kernel
theorem dX7_measureRows_42 : decode cX7_measureRows 42 = .ok (.iload_n 2, 1) := by decide +kernel
theorem dX7_measureRows_43 : decode cX7_measureRows 43 = .ok (.iaload, 1) := by decide +kernel
theorem dX7_measureRows_44 : decode cX7_measureRows 44 = .ok (.if_icmp .le 26, 3) := by decide +kernel
theorem dX7_measureRows_47 : decode cX7_measureRows 47 = .ok (.aload_n 0, 1) := by decide +kernel
theorem dX7_measureRows_48 : decode cX7_measureRows 48 = .ok (.getfield 21, 3) := by decide +kernel
theorem dX7_measureRows_51 : decode cX7_measureRows 51 = .ok (.iload_n 2, 1) := by decide +kernel
theorem dX7_measureRows_52 : decode cX7_measureRows 52 = .ok (.aload_n 0, 1) := by decide +kernel
theorem dX7_measureRows_53 : decode cX7_measureRows 53 = .ok (.getfield 21, 3) := by decide +kernel
theorem dX7_measureRows_56 : decode cX7_measureRows 56 = .ok (.iload_n 2, 1) := by decide +kernel
theorem dX7_measureRows_57 : decode cX7_measureRows 57 = .ok (.iaload, 1) := by decide +kernel
theorem dX7_measureRows_58 : decode cX7_measureRows 58 = .ok (.aload_n 0, 1) := by decide +kernel
theorem dX7_measureRows_59 : decode cX7_measureRows 59 = .ok (.getfield 21, 3) := by decide +kernel
theorem dX7_measureRows_62 : decode cX7_measureRows 62 = .ok (.iload_n 3, 1) := by decide +kernel
theorem dX7_measureRows_63 : decode cX7_measureRows 63 = .ok (.iaload, 1) := by decide +kernel
theorem dX7_measureRows_64 : decode cX7_measureRows 64 = .ok (.iconst 1, 1) := by decide +kernel
theorem dX7_measureRows_65 : decode cX7_measureRows 65 = .ok (.iadd, 1) := by decide +kernel
theorem dX7_measureRows_66 : decode cX7_measureRows 66 = .ok (.invokestatic 43, 3) := by decide +kernel
theorem dX7_measureRows_69 : decode cX7_measureRows 69 = .ok (.iastore, 1) := by decide +kernel
theorem dX7_measureRows_70 : decode cX7_measureRows 70 = .ok (.iinc 3 1, 3) := by decide +kernel
theorem dX7_measureRows_73 : decode cX7_measureRows 73 = .ok (.goto (-49), 3) := by decide +kernel
theorem dX7_measureRows_76 : decode cX7_measureRows 76 = .ok (.iload_n 1, 1) := by decide +kernel
theorem dX7_measureRows_77 : decode cX7_measureRows 77 = .ok (.aload_n 0, 1) := by decide +kernel
theorem dX7_measureRows_78 : decode cX7_measureRows 78 = .ok (.getfield 21, 3) := by decide +kernel
theorem dX7_measureRows_81 : decode cX7_measureRows 81 = .ok (.iload_n 2, 1) := by decide +kernel
theorem dX7_measureRows_82 : decode cX7_measureRows 82 = .ok (.iaload, 1) := by decide +kernel
theorem dX7_measureRows_83 : decode cX7_measureRows 83 = .ok (.invokestatic 43, 3) := by decide +kernel
theorem dX7_measureRows_86 : decode cX7_measureRows 86 = .ok (.istore_n 1, 1) := by decide +kernel
theorem dX7_measureRows_87 : decode cX7_measureRows 87 = .ok (.iinc 2 (-1), 3) := by decide +kernel
theorem dX7_measureRows_90 : decode cX7_measureRows 90 = .ok (.goto (-81), 3) := by decide +kernel
theorem dX7_measureRows_93 : decode cX7_measureRows 93 = .ok (.iload_n 1, 1) := by decide +kernel
theorem dX7_measureRows_94 : decode cX7_measureRows 94 = .ok (.ireturn, 1) := by decide +kernel
theorem dX7_reignInOrder_0 : decode cX7_reignInOrder 0 = .ok (.iconst (-1), 1) := by decide +kernel
theorem dX7_reignInOrder_1 : decode cX7_reignInOrder 1 = .ok (.istore_n 3, 1) := by decide +kernel
theorem dX7_reignInOrder_2 : decode cX7_reignInOrder 2 = .ok (.iconst 0, 1) := by decide +kernel
theorem dX7_reignInOrder_3 : decode cX7_reignInOrder 3 = .ok (.istore 4, 2) := by decide +kernel
theorem dX7_reignInOrder_5 : decode cX7_reignInOrder 5 = .ok (.iload_n 2, 1) := by decide +kernel
theorem dX7_reignInOrder_6 : decode cX7_reignInOrder 6 = .ok (.istore 5, 2) := by decide +kernel
theorem dX7_reignInOrder_8 : decode cX7_reignInOrder 8 = .ok (.iload 5, 2) := by decide +kernel
theorem dX7_reignInOrder_10 : decode cX7_reignInOrder 10 = .ok (.iload_n 2, 1) := by decide +kernel
theorem dX7_reignInOrder_11 : decode cX7_reignInOrder 11 = .ok (.iload_n 1, 1) := by decide +kernel
theorem dX7_reignInOrder_12 : decode cX7_reignInOrder 12 = .ok (.isub, 1) := by decide +kernel
theorem dX7_reignInOrder_13 : decode cX7_reignInOrder 13 = .ok (.if_icmp .lt 104, 3) := by decide +kernel
theorem dX7_reignInOrder_16 : decode cX7_reignInOrder 16 = .ok (.iconst (-1), 1) := by decide +kernel
theorem dX7_reignInOrder_17 : decode cX7_reignInOrder 17 = .ok (.istore 6, 2) := by decide +kernel
theorem dX7_reignInOrder_19 : decode cX7_reignInOrder 19 = .ok (.iload 4, 2) := by decide +kernel
theorem dX7_reignInOrder_21 : decode cX7_reignInOrder 21 = .ok (.istore 7, 2) := by decide +kernel
theorem dX7_reignInOrder_23 : decode cX7_reignInOrder 23 = .ok (.iload 7, 2) := by decide +kernel
theorem dX7_reignInOrder_25 : decode cX7_reignInOrder 25 = .ok (.aload_n 0, 1) := by decide +kernel
theorem dX7_reignInOrder_26 : decode cX7_reignInOrder 26 = .ok (.getfield 37, 3) := by decide +kernel
theorem dX7_reignInOrder_29 : decode cX7_reignInOrder 29 = .ok (.if_icmp .ge 59, 3) := by decide +kernel
theorem dX7_reignInOrder_32 : decode cX7_reignInOrder 32 = .ok (.aload_n 0, 1) := by decide +kernel
theorem dX7_reignInOrder_33 : decode cX7_reignInOrder 33 = .ok (.getfield 18, 3) := by decide +kernel
theorem dX7_reignInOrder_36 : decode cX7_reignInOrder 36 = .ok (.iload 7, 2) := by decide +kernel
theorem dX7_reignInOrder_38 : decode cX7_reignInOrder 38 = .ok (.iaload, 1) := by decide +kernel
theorem dX7_reignInOrder_39 : decode cX7_reignInOrder 39 = .ok (.iload_n 3, 1) := by decide +kernel
theorem dX7_reignInOrder_40 : decode cX7_reignInOrder 40 = .ok (.if_icmp .le 42, 3) := by decide +kernel
theorem dX7_reignInOrder_43 : decode cX7_reignInOrder 43 = .ok (.aload_n 0, 1) := by decide +kernel
theorem dX7_reignInOrder_44 : decode cX7_reignInOrder 44 = .ok (.getfield 21, 3) := by decide +kernel
theorem dX7_reignInOrder_47 : decode cX7_reignInOrder 47 = .ok (.iload 7, 2) := by decide +kernel
theorem dX7_reignInOrder_49 : decode cX7_reignInOrder 49 = .ok (.iaload, 1) := by decide +kernel
theorem dX7_reignInOrder_50 : decode cX7_reignInOrder 50 = .ok (.iload 5, 2) := by decide +kernel
theorem dX7_reignInOrder_52 : decode cX7_reignInOrder 52 = .ok (.if_icmp .lt 30, 3) := by decide +kernel
theorem dX7_reignInOrder_55 : decode cX7_reignInOrder 55 = .ok (.iload 6, 2) := by decide +kernel
theorem dX7_reignInOrder_57 : decode cX7_reignInOrder 57 = .ok (.iconst (-1), 1) := by decide +kernel
theorem dX7_reignInOrder_58 : decode cX7_reignInOrder 58 = .ok (.if_icmp .eq 20, 3) := by decide +kernel
theorem dX7_reignInOrder_61 : decode cX7_reignInOrder 61 = .ok (.aload_n 0, 1) := by decide +kernel
theorem dX7_reignInOrder_62 : decode cX7_reignInOrder 62 = .ok (.getfield 18, 3) := by decide +kernel
theorem dX7_reignInOrder_65 : decode cX7_reignInOrder 65 = .ok (.iload 7, 2) := by decide +kernel
theorem dX7_reignInOrder_67 : decode cX7_reignInOrder 67 = .ok (.iaload, 1) := by decide +kernel
theorem dX7_reignInOrder_68 : decode cX7_reignInOrder 68 = .ok (.aload_n 0, 1) := by decide +kernel
theorem dX7_reignInOrder_69 : decode cX7_reignInOrder 69 = .ok (.getfield 18, 3) := by decide +kernel
theorem dX7_reignInOrder_72 : decode cX7_reignInOrder 72 = .ok (.iload 6, 2) := by decide +kernel
theorem dX7_reignInOrder_74 : decode cX7_reignInOrder 74 = .ok (.iaload, 1) := by decide +kernel
theorem dX7_reignInOrder_75 : decode cX7_reignInOrder 75 = .ok (.if_icmp .ge 7, 3) := by decide +kernel
theorem dX7_reignInOrder_78 : decode cX7_reignInOrder 78 = .ok (.iload 7, 2) := by decide +kernel
theorem dX7_reignInOrder_80 : decode cX7_reignInOrder 80 = .ok (.istore 6, 2) := by decide +kernel
theorem dX7_reignInOrder_82 : decode cX7_reignInOrder 82 = .ok (.iinc 7 1, 3) := by decide +kernel
theorem dX7_reignInOrder_85 : decode cX7_reignInOrder 85 = .ok (.goto (-62), 3) := by decide +kernel
theorem dX7_reignInOrder_88 : decode cX7_reignInOrder 88 = .ok (.iload 6, 2) := by decide +kernel
theorem dX7_reignInOrder_90 : decode cX7_reignInOrder 90 = .ok (.iconst (-1), 1) := by decide +kernel
theorem dX7_reignInOrder_91 : decode cX7_reignInOrder 91 = .ok (.if_icmp .ne 6, 3) := by decide +kernel
theorem dX7_reignInOrder_94 : decode cX7_reignInOrder 94 = .ok (.bipush (-2), 2) := by decide +kernel
theorem dX7_reignInOrder_96 : decode cX7_reignInOrder 96 = .ok (.ireturn, 1) := by decide +kernel
theorem dX7_reignInOrder_97 : decode cX7_reignInOrder 97 = .ok (.aload_n 0, 1) := by decide +kernel
theorem dX7_reignInOrder_98 : decode cX7_reignInOrder 98 = .ok (.getfield 18, 3) := by decide +kernel
theorem dX7_reignInOrder_101 : decode cX7_reignInOrder 101 = .ok (.iload 6, 2) := by decide +kernel
theorem dX7_reignInOrder_103 : decode cX7_reignInOrder 103 = .ok (.iaload, 1) := by decide +kernel
theorem dX7_reignInOrder_104 : decode cX7_reignInOrder 104 = .ok (.istore_n 3, 1) := by decide +kernel
theorem dX7_reignInOrder_105 : decode cX7_reignInOrder 105 = .ok (.iload 6, 2) := by decide +kernel
theorem dX7_reignInOrder_107 : decode cX7_reignInOrder 107 = .ok (.iconst 1, 1) := by decide +kernel
theorem dX7_reignInOrder_108 : decode cX7_reignInOrder 108 = .ok (.iadd, 1) := by decide +kernel
theorem dX7_reignInOrder_109 : decode cX7_reignInOrder 109 = .ok (.istore 4, 2) := by decide +kernel
theorem dX7_reignInOrder_111 : decode cX7_reignInOrder 111 = .ok (.iinc 5 (-1), 3) := by decide +kernel
theorem dX7_reignInOrder_114 : decode cX7_reignInOrder 114 = .ok (.goto (-106), 3) := by decide +kernel
theorem dX7_reignInOrder_117 : decode cX7_reignInOrder 117 = .ok (.iload_n 3, 1) := by decide +kernel
theorem dX7_reignInOrder_118 : decode cX7_reignInOrder 118 = .ok (.ireturn, 1) := by decide +kernel
theorem dX7_areApart_0 : decode cX7_areApart 0 = .ok (.iconst 0, 1) := by decide +kernel
theorem dX7_areApart_1 : decode cX7_areApart 1 = .ok (.istore_n 2, 1) := by decide +kernel
theorem dX7_areApart_2 : decode cX7_areApart 2 = .ok (.iload_n 2, 1) := by decide +kernel
theorem dX7_areApart_3 : decode cX7_areApart 3 = .ok (.aload_n 0, 1) := by decide +kernel
theorem dX7_areApart_4 : decode cX7_areApart 4 = .ok (.getfield 40, 3) := by decide +kernel
theorem dX7_areApart_7 : decode cX7_areApart 7 = .ok (.if_icmp .ge 28, 3) := by decide +kernel
theorem dX7_areApart_10 : decode cX7_areApart 10 = .ok (.aload_n 0, 1) := by decide +kernel
theorem dX7_areApart_11 : decode cX7_areApart 11 = .ok (.getfield 24, 3) := by decide +kernel
theorem dX7_areApart_14 : decode cX7_areApart 14 = .ok (.iload_n 2, 1) := by decide +kernel
theorem dX7_areApart_15 : decode cX7_areApart 15 = .ok (.iaload, 1) := by decide +kernel
theorem dX7_areApart_16 : decode cX7_areApart 16 = .ok (.iload_n 1, 1) := by decide +kernel
theorem dX7_areApart_17 : decode cX7_areApart 17 = .ok (.iand, 1) := by decide +kernel
theorem dX7_areApart_18 : decode cX7_areApart 18 = .ok (.aload_n 0, 1) := by decide +kernel
theorem dX7_areApart_19 : decode cX7_areApart 19 = .ok (.getfield 24, 3) := by decide +kernel
theorem dX7_areApart_22 : decode cX7_areApart 22 = .ok (.iload_n 2, 1) := by decide +kernel
theorem dX7_areApart_23 : decode cX7_areApart 23 = .ok (.iaload, 1) := by decide +kernel
theorem dX7_areApart_24 : decode cX7_areApart 24 = .ok (.if_icmp .ne 5, 3) := by decide +kernel
theorem dX7_areApart_27 : decode cX7_areApart 27 = .ok (.iconst 0, 1) := by decide +kernel
theorem dX7_areApart_28 : decode cX7_areApart 28 = .ok (.ireturn, 1) := by decide +kernel
theorem dX7_areApart_29 : decode cX7_areApart 29 = .ok (.iinc 2 1, 3) := by decide +kernel
theorem dX7_areApart_32 : decode cX7_areApart 32 = .ok (.goto (-30), 3) := by decide +kernel
theorem dX7_areApart_35 : decode cX7_areApart 35 = .ok (.iconst 1, 1) := by decide +kernel
theorem dX7_areApart_36 : decode cX7_areApart 36 = .ok (.ireturn, 1) := by decide +kernel
theorem dX7_chainOf_0 : decode cX7_chainOf 0 = .ok (.iconst 1, 1) := by decide +kernel
theorem dX7_chainOf_1 : decode cX7_chainOf 1 = .ok (.iload_n 2, 1) := by decide +kernel
theorem dX7_chainOf_2 : decode cX7_chainOf 2 = .ok (.ishl, 1) := by decide +kernel
theorem dX7_chainOf_3 : decode cX7_chainOf 3 = .ok (.iconst 1, 1) := by decide +kernel
theorem dX7_chainOf_4 : decode cX7_chainOf 4 = .ok (.isub, 1) := by decide +kernel
theorem dX7_chainOf_5 : decode cX7_chainOf 5 = .ok (.istore_n 3, 1) := by decide +kernel
theorem dX7_chainOf_6 : decode cX7_chainOf 6 = .ok (.iconst 1, 1) := by decide +kernel
theorem dX7_chainOf_7 : decode cX7_chainOf 7 = .ok (.iload_n 1, 1) := by decide +kernel
theorem dX7_chainOf_8 : decode cX7_chainOf 8 = .ok (.ishl, 1) := by decide +kernel
theorem dX7_chainOf_9 : decode cX7_chainOf 9 = .ok (.istore 4, 2) := by decide +kernel
theorem dX7_chainOf_11 : decode cX7_chainOf 11 = .ok (.iconst 0, 1) := by decide +kernel
theorem dX7_chainOf_12 : decode cX7_chainOf 12 = .ok (.istore 5, 2) := by decide +kernel
theorem dX7_chainOf_14 : decode cX7_chainOf 14 = .ok (.iload 5, 2) := by decide +kernel
theorem dX7_chainOf_16 : decode cX7_chainOf 16 = .ok (.bipush 10, 2) := by decide +kernel
theorem dX7_chainOf_18 : decode cX7_chainOf 18 = .ok (.if_icmp .ge 66, 3) := by decide +kernel
theorem dX7_chainOf_21 : decode cX7_chainOf 21 = .ok (.iconst 0, 1) := by decide +kernel
theorem dX7_chainOf_22 : decode cX7_chainOf 22 = .ok (.istore 6, 2) := by decide +kernel
theorem dX7_chainOf_24 : decode cX7_chainOf 24 = .ok (.iload 6, 2) := by decide +kernel
theorem dX7_chainOf_26 : decode cX7_chainOf 26 = .ok (.aload_n 0, 1) := by decide +kernel
theorem dX7_chainOf_27 : decode cX7_chainOf 27 = .ok (.getfield 40, 3) := by decide +kernel
theorem dX7_chainOf_30 : decode cX7_chainOf 30 = .ok (.if_icmp .ge 48, 3) := by decide +kernel
theorem dX7_chainOf_33 : decode cX7_chainOf 33 = .ok (.aload_n 0, 1) := by decide +kernel
theorem dX7_chainOf_34 : decode cX7_chainOf 34 = .ok (.getfield 24, 3) := by decide +kernel
theorem dX7_chainOf_37 : decode cX7_chainOf 37 = .ok (.iload 6, 2) := by decide +kernel
theorem dX7_chainOf_39 : decode cX7_chainOf 39 = .ok (.iaload, 1) := by decide +kernel
theorem dX7_chainOf_40 : decode cX7_chainOf 40 = .ok (.iload_n 3, 1) := by decide +kernel
theorem dX7_chainOf_41 : decode cX7_chainOf 41 = .ok (.iconst (-1), 1) := by decide +kernel
theorem dX7_chainOf_42 : decode cX7_chainOf 42 = .ok (.ixor, 1) := by decide +kernel
theorem dX7_chainOf_43 : decode cX7_chainOf 43 = .ok (.iand, 1) := by decide +kernel
theorem dX7_chainOf_44 : decode cX7_chainOf 44 = .ok (.ifCond .ne 28, 3) := by decide +kernel
theorem dX7_chainOf_47 : decode cX7_chainOf 47 = .ok (.aload_n 0, 1) := by decide +kernel
theorem dX7_chainOf_48 : decode cX7_chainOf 48 = .ok (.getfield 24, 3) := by decide +kernel
theorem dX7_chainOf_51 : decode cX7_chainOf 51 = .ok (.iload 6, 2) := by decide +kernel
theorem dX7_chainOf_53 : decode cX7_chainOf 53 = .ok (.iaload, 1) := by decide +kernel
theorem dX7_chainOf_54 : decode cX7_chainOf 54 = .ok (.iload 4, 2) := by decide +kernel
theorem dX7_chainOf_56 : decode cX7_chainOf 56 = .ok (.iand, 1) := by decide +kernel
theorem dX7_chainOf_57 : decode cX7_chainOf 57 = .ok (.ifCond .eq 15, 3) := by decide +kernel
theorem dX7_chainOf_60 : decode cX7_chainOf 60 = .ok (.iload 4, 2) := by decide +kernel
theorem dX7_chainOf_62 : decode cX7_chainOf 62 = .ok (.aload_n 0, 1) := by decide +kernel
theorem dX7_chainOf_63 : decode cX7_chainOf 63 = .ok (.getfield 24, 3) := by decide +kernel
theorem dX7_chainOf_66 : decode cX7_chainOf 66 = .ok (.iload 6, 2) := by decide +kernel
theorem dX7_chainOf_68 : decode cX7_chainOf 68 = .ok (.iaload, 1) := by decide +kernel
theorem dX7_chainOf_69 : decode cX7_chainOf 69 = .ok (.ior, 1) := by decide +kernel
theorem dX7_chainOf_70 : decode cX7_chainOf 70 = .ok (.istore 4, 2) := by decide +kernel
theorem dX7_chainOf_72 : decode cX7_chainOf 72 = .ok (.iinc 6 1, 3) := by decide +kernel
theorem dX7_chainOf_75 : decode cX7_chainOf 75 = .ok (.goto (-51), 3) := by decide +kernel
theorem dX7_chainOf_78 : decode cX7_chainOf 78 = .ok (.iinc 5 1, 3) := by decide +kernel
theorem dX7_chainOf_81 : decode cX7_chainOf 81 = .ok (.goto (-67), 3) := by decide +kernel
theorem dX7_chainOf_84 : decode cX7_chainOf 84 = .ok (.iload 4, 2) := by decide +kernel
theorem dX7_chainOf_86 : decode cX7_chainOf 86 = .ok (.ireturn, 1) := by decide +kernel
theorem dX8_init_0 : decode cX8_init 0 = .ok (.aload_n 0, 1) := by decide +kernel
theorem dX8_init_1 : decode cX8_init 1 = .ok (.invokespecial 3, 3) := by decide +kernel
theorem dX8_init_4 : decode cX8_init 4 = .ok (.aload_n 0, 1) := by decide +kernel
theorem dX8_init_5 : decode cX8_init 5 = .ok (.bipush 9, 2) := by decide +kernel
theorem dX8_init_7 : decode cX8_init 7 = .ok (.newarray .int, 2) := by decide +kernel
theorem dX8_init_9 : decode cX8_init 9 = .ok (.putfield 9, 3) := by decide +kernel
theorem dX8_init_12 : decode cX8_init 12 = .ok (.aload_n 0, 1) := by decide +kernel
theorem dX8_init_13 : decode cX8_init 13 = .ok (.bipush 10, 2) := by decide +kernel
theorem dX8_init_15 : decode cX8_init 15 = .ok (.newarray .int, 2) := by decide +kernel
theorem dX8_init_17 : decode cX8_init 17 = .ok (.putfield 15, 3) := by decide +kernel
theorem dX8_init_20 : decode cX8_init 20 = .ok (.aload_n 0, 1) := by decide +kernel
theorem dX8_init_21 : decode cX8_init 21 = .ok (.bipush 10, 2) := by decide +kernel
theorem dX8_init_23 : decode cX8_init 23 = .ok (.newarray .int, 2) := by decide +kernel
theorem dX8_init_25 : decode cX8_init 25 = .ok (.putfield 18, 3) := by decide +kernel
theorem dX8_init_28 : decode cX8_init 28 = .ok (.aload_n 0, 1) := by decide +kernel
theorem dX8_init_29 : decode cX8_init 29 = .ok (.bipush 9, 2) := by decide +kernel
theorem dX8_init_31 : decode cX8_init 31 = .ok (.newarray .int, 2) := by decide +kernel
theorem dX8_init_33 : decode cX8_init 33 = .ok (.putfield 21, 3) := by decide +kernel
theorem dX8_init_36 : decode cX8_init 36 = .ok (.return_, 1) := by decide +kernel
theorem dX8_unite_0 : decode cX8_unite 0 = .ok (.aload_n 0, 1) := by decide +kernel
theorem dX8_unite_1 : decode cX8_unite 1 = .ok (.getfield 15, 3) := by decide +kernel
theorem dX8_unite_4 : decode cX8_unite 4 = .ok (.iload_n 1, 1) := by decide +kernel
theorem dX8_unite_5 : decode cX8_unite 5 = .ok (.iconst 0, 1) := by decide +kernel
theorem dX8_unite_6 : decode cX8_unite 6 = .ok (.iastore, 1) := by decide +kernel
theorem dX8_unite_7 : decode cX8_unite 7 = .ok (.aload_n 0, 1) := by decide +kernel
theorem dX8_unite_8 : decode cX8_unite 8 = .ok (.getfield 18, 3) := by decide +kernel
theorem dX8_unite_11 : decode cX8_unite 11 = .ok (.iload_n 1, 1) := by decide +kernel
theorem dX8_unite_12 : decode cX8_unite 12 = .ok (.iconst 0, 1) := by decide +kernel
theorem dX8_unite_13 : decode cX8_unite 13 = .ok (.iastore, 1) := by decide +kernel
theorem dX8_unite_14 : decode cX8_unite 14 = .ok (.iload_n 1, 1) := by decide +kernel
theorem dX8_unite_15 : decode cX8_unite 15 = .ok (.iconst 1, 1) := by decide +kernel
theorem dX8_unite_16 : decode cX8_unite 16 = .ok (.isub, 1) := by decide +kernel
theorem dX8_unite_17 : decode cX8_unite 17 = .ok (.istore_n 3, 1) := by decide +kernel
theorem dX8_unite_18 : decode cX8_unite 18 = .ok (.iload_n 3, 1) := by decide +kernel
theorem dX8_unite_19 : decode cX8_unite 19 = .ok (.ifCond .lt 139, 3) := by decide +kernel
theorem dX8_unite_22 : decode cX8_unite 22 = .ok (.aload_n 0, 1) := by decide +kernel
theorem dX8_unite_23 : decode cX8_unite 23 = .ok (.getfield 21, 3) := by decide +kernel
theorem dX8_unite_26 : decode cX8_unite 26 = .ok (.iload_n 3, 1) := by decide +kernel
theorem dX8_unite_27 : decode cX8_unite 27 = .ok (.iconst (-1), 1) := by decide +kernel
theorem dX8_unite_28 : decode cX8_unite 28 = .ok (.iastore, 1) := by decide +kernel
theorem dX8_unite_29 : decode cX8_unite 29 = .ok (.iload_n 1, 1) := by decide +kernel
theorem dX8_unite_30 : decode cX8_unite 30 = .ok (.istore 4, 2) := by decide +kernel
theorem dX8_unite_32 : decode cX8_unite 32 = .ok (.iload 4, 2) := by decide +kernel
theorem dX8_unite_34 : decode cX8_unite 34 = .ok (.iload_n 3, 1) := by decide +kernel
theorem dX8_unite_35 : decode cX8_unite 35 = .ok (.if_icmp .le 117, 3) := by decide +kernel
theorem dX8_unite_38 : decode cX8_unite 38 = .ok (.aload_n 0, 1) := by decide +kernel
theorem dX8_unite_39 : decode cX8_unite 39 = .ok (.iload_n 3, 1) := by decide +kernel
theorem dX8_unite_40 : decode cX8_unite 40 = .ok (.iload 4, 2) := by decide +kernel
theorem dX8_unite_42 : decode cX8_unite 42 = .ok (.iload_n 2, 1) := by decide +kernel
theorem dX8_unite_43 : decode cX8_unite 43 = .ok (.invokevirtual 24, 3) := by decide +kernel
theorem dX8_unite_46 : decode cX8_unite 46 = .ok (.aload_n 0, 1) := by decide +kernel
theorem dX8_unite_47 : decode cX8_unite 47 = .ok (.getfield 15, 3) := by decide +kernel
theorem dX8_unite_50 : decode cX8_unite 50 = .ok (.iload 4, 2) := by decide +kernel
theorem dX8_unite_52 : decode cX8_unite 52 = .ok (.iaload, 1) := by decide +kernel
theorem dX8_unite_53 : decode cX8_unite 53 = .ok (.iadd, 1) := by decide +kernel
theorem dX8_unite_54 : decode cX8_unite 54 = .ok (.istore 5, 2) := by decide +kernel
theorem dX8_unite_56 : decode cX8_unite 56 = .ok (.iconst 1, 1) := by decide +kernel
theorem dX8_unite_57 : decode cX8_unite 57 = .ok (.aload_n 0, 1) := by decide +kernel
theorem dX8_unite_58 : decode cX8_unite 58 = .ok (.getfield 18, 3) := by decide +kernel
theorem dX8_unite_61 : decode cX8_unite 61 = .ok (.iload 4, 2) := by decide +kernel
theorem dX8_unite_63 : decode cX8_unite 63 = .ok (.iaload, 1) := by decide +kernel
theorem dX8_unite_64 : decode cX8_unite 64 = .ok (.iadd, 1) := by decide +kernel
theorem dX8_unite_65 : decode cX8_unite 65 = .ok (.istore 6, 2) := by decide +kernel
theorem dX8_unite_67 : decode cX8_unite 67 = .ok (.aload_n 0, 1) := by decide +kernel
theorem dX8_unite_68 : decode cX8_unite 68 = .ok (.getfield 21, 3) := by decide +kernel
theorem dX8_unite_71 : decode cX8_unite 71 = .ok (.iload_n 3, 1) := by decide +kernel
theorem dX8_unite_72 : decode cX8_unite 72 = .ok (.iaload, 1) := by decide +kernel
theorem dX8_unite_73 : decode cX8_unite 73 = .ok (.iconst (-1), 1) := by decide +kernel
theorem dX8_unite_74 : decode cX8_unite 74 = .ok (.if_icmp .eq 14, 3) := by decide +kernel
theorem dX8_unite_77 : decode cX8_unite 77 = .ok (.iload 5, 2) := by decide +kernel
theorem dX8_unite_79 : decode cX8_unite 79 = .ok (.aload_n 0, 1) := by decide +kernel
theorem dX8_unite_80 : decode cX8_unite 80 = .ok (.getfield 15, 3) := by decide +kernel
theorem dX8_unite_83 : decode cX8_unite 83 = .ok (.iload_n 3, 1) := by decide +kernel
theorem dX8_unite_84 : decode cX8_unite 84 = .ok (.iaload, 1) := by decide +kernel
theorem dX8_unite_85 : decode cX8_unite 85 = .ok (.if_icmp .le 7, 3) := by decide +kernel
theorem dX8_unite_88 : decode cX8_unite 88 = .ok (.iconst 1, 1) := by decide +kernel
theorem dX8_unite_89 : decode cX8_unite 89 = .ok (.goto 4, 3) := by decide +kernel
theorem dX8_unite_92 : decode cX8_unite 92 = .ok (.iconst 0, 1) := by decide +kernel
theorem dX8_unite_93 : decode cX8_unite 93 = .ok (.istore 7, 2) := by decide +kernel
theorem dX8_unite_95 : decode cX8_unite 95 = .ok (.iload 7, 2) := by decide +kernel
theorem dX8_unite_97 : decode cX8_unite 97 = .ok (.ifCond .ne 25, 3) := by decide +kernel
theorem dX8_unite_100 : decode cX8_unite 100 = .ok (.iload 5, 2) := by decide +kernel
theorem dX8_unite_102 : decode cX8_unite 102 = .ok (.aload_n 0, 1) := by decide +kernel
theorem dX8_unite_103 : decode cX8_unite 103 = .ok (.getfield 15, 3) := by decide +kernel
theorem dX8_unite_106 : decode cX8_unite 106 = .ok (.iload_n 3, 1) := by decide +kernel
theorem dX8_unite_107 : decode cX8_unite 107 = .ok (.iaload, 1) := by decide +kernel
theorem dX8_unite_108 : decode cX8_unite 108 = .ok (.if_icmp .ne 38, 3) := by decide +kernel
theorem dX8_unite_111 : decode cX8_unite 111 = .ok (.iload 6, 2) := by decide +kernel
theorem dX8_unite_113 : decode cX8_unite 113 = .ok (.aload_n 0, 1) := by decide +kernel
theorem dX8_unite_114 : decode cX8_unite 114 = .ok (.getfield 18, 3) := by decide +kernel
theorem dX8_unite_117 : decode cX8_unite 117 = .ok (.iload_n 3, 1) := by decide +kernel
theorem dX8_unite_118 : decode cX8_unite 118 = .ok (.iaload, 1) := by decide +kernel
theorem dX8_unite_119 : decode cX8_unite 119 = .ok (.if_icmp .ge 27, 3) := by decide +kernel
theorem dX8_unite_122 : decode cX8_unite 122 = .ok (.aload_n 0, 1) := by decide +kernel
theorem dX8_unite_123 : decode cX8_unite 123 = .ok (.getfield 15, 3) := by decide +kernel
theorem dX8_unite_126 : decode cX8_unite 126 = .ok (.iload_n 3, 1) := by decide +kernel
theorem dX8_unite_127 : decode cX8_unite 127 = .ok (.iload 5, 2) := by decide +kernel
theorem dX8_unite_129 : decode cX8_unite 129 = .ok (.iastore, 1) := by decide +kernel
theorem dX8_unite_130 : decode cX8_unite 130 = .ok (.aload_n 0, 1) := by decide +kernel
theorem dX8_unite_131 : decode cX8_unite 131 = .ok (.getfield 18, 3) := by decide +kernel
theorem dX8_unite_134 : decode cX8_unite 134 = .ok (.iload_n 3, 1) := by decide +kernel
theorem dX8_unite_135 : decode cX8_unite 135 = .ok (.iload 6, 2) := by decide +kernel
theorem dX8_unite_137 : decode cX8_unite 137 = .ok (.iastore, 1) := by decide +kernel
theorem dX8_unite_138 : decode cX8_unite 138 = .ok (.aload_n 0, 1) := by decide +kernel
theorem dX8_unite_139 : decode cX8_unite 139 = .ok (.getfield 21, 3) := by decide +kernel
theorem dX8_unite_142 : decode cX8_unite 142 = .ok (.iload_n 3, 1) := by decide +kernel
theorem dX8_unite_143 : decode cX8_unite 143 = .ok (.iload 4, 2) := by decide +kernel
theorem dX8_unite_145 : decode cX8_unite 145 = .ok (.iastore, 1) := by decide +kernel
theorem dX8_unite_146 : decode cX8_unite 146 = .ok (.iinc 4 (-1), 3) := by decide +kernel
theorem dX8_unite_149 : decode cX8_unite 149 = .ok (.goto (-117), 3) := by decide +kernel
theorem dX8_unite_152 : decode cX8_unite 152 = .ok (.iinc 3 (-1), 3) := by decide +kernel
theorem dX8_unite_155 : decode cX8_unite 155 = .ok (.goto (-137), 3) := by decide +kernel
theorem dX8_unite_158 : decode cX8_unite 158 = .ok (.return_, 1) := by decide +kernel
theorem dX8_worthOf_0 : decode cX8_worthOf 0 = .ok (.iconst 0, 1) := by decide +kernel
theorem dX8_worthOf_1 : decode cX8_worthOf 1 = .ok (.istore 4, 2) := by decide +kernel
theorem dX8_worthOf_3 : decode cX8_worthOf 3 = .ok (.iload_n 1, 1) := by decide +kernel
theorem dX8_worthOf_4 : decode cX8_worthOf 4 = .ok (.istore 5, 2) := by decide +kernel
theorem dX8_worthOf_6 : decode cX8_worthOf 6 = .ok (.iload 5, 2) := by decide +kernel
theorem dX8_worthOf_8 : decode cX8_worthOf 8 = .ok (.iload_n 2, 1) := by decide +kernel
theorem dX8_worthOf_9 : decode cX8_worthOf 9 = .ok (.if_icmp .ge 21, 3) := by decide +kernel
theorem dX8_worthOf_12 : decode cX8_worthOf 12 = .ok (.iload 4, 2) := by decide +kernel
theorem dX8_worthOf_14 : decode cX8_worthOf 14 = .ok (.aload_n 0, 1) := by decide +kernel
theorem dX8_worthOf_15 : decode cX8_worthOf 15 = .ok (.getfield 9, 3) := by decide +kernel
theorem dX8_worthOf_18 : decode cX8_worthOf 18 = .ok (.iload 5, 2) := by decide +kernel
theorem dX8_worthOf_20 : decode cX8_worthOf 20 = .ok (.iaload, 1) := by decide +kernel
theorem dX8_worthOf_21 : decode cX8_worthOf 21 = .ok (.iadd, 1) := by decide +kernel
theorem dX8_worthOf_22 : decode cX8_worthOf 22 = .ok (.istore 4, 2) := by decide +kernel
theorem dX8_worthOf_24 : decode cX8_worthOf 24 = .ok (.iinc 5 1, 3) := by decide +kernel
theorem dX8_worthOf_27 : decode cX8_worthOf 27 = .ok (.goto (-21), 3) := by decide +kernel
theorem dX8_worthOf_30 : decode cX8_worthOf 30 = .ok (.iload_n 2, 1) := by decide +kernel
theorem dX8_worthOf_31 : decode cX8_worthOf 31 = .ok (.iload_n 1, 1) := by decide +kernel
theorem dX8_worthOf_32 : decode cX8_worthOf 32 = .ok (.isub, 1) := by decide +kernel
theorem dX8_worthOf_33 : decode cX8_worthOf 33 = .ok (.istore 5, 2) := by decide +kernel
theorem dX8_worthOf_35 : decode cX8_worthOf 35 = .ok (.iload 4, 2) := by decide +kernel
theorem dX8_worthOf_37 : decode cX8_worthOf 37 = .ok (.iload 5, 2) := by decide +kernel
theorem dX8_worthOf_39 : decode cX8_worthOf 39 = .ok (.imul, 1) := by decide +kernel
theorem dX8_worthOf_40 : decode cX8_worthOf 40 = .ok (.iload_n 3, 1) := by decide +kernel
theorem dX8_worthOf_41 : decode cX8_worthOf 41 = .ok (.iload 5, 2) := by decide +kernel
theorem dX8_worthOf_43 : decode cX8_worthOf 43 = .ok (.iload 5, 2) := by decide +kernel
theorem dX8_worthOf_45 : decode cX8_worthOf 45 = .ok (.iconst 1, 1) := by decide +kernel
theorem dX8_worthOf_46 : decode cX8_worthOf 46 = .ok (.isub, 1) := by decide +kernel
theorem dX8_worthOf_47 : decode cX8_worthOf 47 = .ok (.imul, 1) := by decide +kernel
theorem dX8_worthOf_48 : decode cX8_worthOf 48 = .ok (.iconst 2, 1) := by decide +kernel
theorem dX8_worthOf_49 : decode cX8_worthOf 49 = .ok (.idiv, 1) := by decide +kernel
theorem dX8_worthOf_50 : decode cX8_worthOf 50 = .ok (.imul, 1) := by decide +kernel
theorem dX8_worthOf_51 : decode cX8_worthOf 51 = .ok (.isub, 1) := by decide +kernel
theorem dX8_worthOf_52 : decode cX8_worthOf 52 = .ok (.ireturn, 1) := by decide +kernel
theorem dX8_unionOf_0 : decode cX8_unionOf 0 = .ok (.iconst 0, 1) := by decide +kernel
theorem dX8_unionOf_1 : decode cX8_unionOf 1 = .ok (.istore_n 2, 1) := by decide +kernel
theorem dX8_unionOf_2 : decode cX8_unionOf 2 = .ok (.aload_n 0, 1) := by decide +kernel
theorem dX8_unionOf_3 : decode cX8_unionOf 3 = .ok (.getfield 21, 3) := by decide +kernel
theorem dX8_unionOf_6 : decode cX8_unionOf 6 = .ok (.iconst 0, 1) := by decide +kernel
theorem dX8_unionOf_7 : decode cX8_unionOf 7 = .ok (.iaload, 1) := by decide +kernel
theorem dX8_unionOf_8 : decode cX8_unionOf 8 = .ok (.istore_n 3, 1) := by decide +kernel
theorem dX8_unionOf_9 : decode cX8_unionOf 9 = .ok (.iconst 0, 1) := by decide +kernel
theorem dX8_unionOf_10 : decode cX8_unionOf 10 = .ok (.istore 4, 2) := by decide +kernel
theorem dX8_unionOf_12 : decode cX8_unionOf 12 = .ok (.iload 4, 2) := by decide +kernel
theorem dX8_unionOf_14 : decode cX8_unionOf 14 = .ok (.bipush 9, 2) := by decide +kernel
theorem dX8_unionOf_16 : decode cX8_unionOf 16 = .ok (.if_icmp .ge 24, 3) := by decide +kernel
theorem dX8_unionOf_19 : decode cX8_unionOf 19 = .ok (.iload_n 3, 1) := by decide +kernel
theorem dX8_unionOf_20 : decode cX8_unionOf 20 = .ok (.iload_n 1, 1) := by decide +kernel
theorem dX8_unionOf_21 : decode cX8_unionOf 21 = .ok (.if_icmp .gt 19, 3) := by decide +kernel
theorem dX8_unionOf_24 : decode cX8_unionOf 24 = .ok (.iinc 2 1, 3) := by decide +kernel
theorem dX8_unionOf_27 : decode cX8_unionOf 27 = .ok (.aload_n 0, 1) := by decide +kernel
theorem dX8_unionOf_28 : decode cX8_unionOf 28 = .ok (.getfield 21, 3) := by decide +kernel
theorem dX8_unionOf_31 : decode cX8_unionOf 31 = .ok (.iload_n 3, 1) := by decide +kernel
theorem dX8_unionOf_32 : decode cX8_unionOf 32 = .ok (.iaload, 1) := by decide +kernel
theorem dX8_unionOf_33 : decode cX8_unionOf 33 = .ok (.istore_n 3, 1) := by decide +kernel
theorem dX8_unionOf_34 : decode cX8_unionOf 34 = .ok (.iinc 4 1, 3) := by decide +kernel
theorem dX8_unionOf_37 : decode cX8_unionOf 37 = .ok (.goto (-25), 3) := by decide +kernel
theorem dX8_unionOf_40 : decode cX8_unionOf 40 = .ok (.iload_n 2, 1) := by decide +kernel
theorem dX8_unionOf_41 : decode cX8_unionOf 41 = .ok (.ireturn, 1) := by decide +kernel
theorem dX9_init_0 : decode cX9_init 0 = .ok (.aload_n 0, 1) := by decide +kernel
theorem dX9_init_1 : decode cX9_init 1 = .ok (.invokespecial 3, 3) := by decide +kernel
theorem dX9_init_4 : decode cX9_init 4 = .ok (.aload_n 0, 1) := by decide +kernel
theorem dX9_init_5 : decode cX9_init 5 = .ok (.bipush 9, 2) := by decide +kernel
theorem dX9_init_7 : decode cX9_init 7 = .ok (.bipush 49, 2) := by decide +kernel
theorem dX9_init_9 : decode cX9_init 9 = .ok (.multianewarray 9 2, 4) := by decide +kernel
theorem dX9_init_13 : decode cX9_init 13 = .ok (.putfield 11, 3) := by decide +kernel
theorem dX9_init_16 : decode cX9_init 16 = .ok (.aload_n 0, 1) := by decide +kernel
theorem dX9_init_17 : decode cX9_init 17 = .ok (.bipush 9, 2) := by decide +kernel
theorem dX9_init_19 : decode cX9_init 19 = .ok (.bipush 49, 2) := by decide +kernel
theorem dX9_init_21 : decode cX9_init 21 = .ok (.multianewarray 9 2, 4) := by decide +kernel
theorem dX9_init_25 : decode cX9_init 25 = .ok (.putfield 16, 3) := by decide +kernel
theorem dX9_init_28 : decode cX9_init 28 = .ok (.aload_n 0, 1) := by decide +kernel
theorem dX9_init_29 : decode cX9_init 29 = .ok (.bipush 9, 2) := by decide +kernel
theorem dX9_init_31 : decode cX9_init 31 = .ok (.bipush 49, 2) := by decide +kernel
theorem dX9_init_33 : decode cX9_init 33 = .ok (.multianewarray 9 2, 4) := by decide +kernel
theorem dX9_init_37 : decode cX9_init 37 = .ok (.putfield 19, 3) := by decide +kernel
theorem dX9_init_40 : decode cX9_init 40 = .ok (.aload_n 0, 1) := by decide +kernel
theorem dX9_init_41 : decode cX9_init 41 = .ok (.aload_n 1, 1) := by decide +kernel
theorem dX9_init_42 : decode cX9_init 42 = .ok (.putfield 22, 3) := by decide +kernel
theorem dX9_init_45 : decode cX9_init 45 = .ok (.return_, 1) := by decide +kernel
theorem dX9_plan_0 : decode cX9_plan 0 = .ok (.aload_n 1, 1) := by decide +kernel
theorem dX9_plan_1 : decode cX9_plan 1 = .ok (.getfield 26, 3) := by decide +kernel
theorem dX9_plan_4 : decode cX9_plan 4 = .ok (.istore 6, 2) := by decide +kernel
theorem dX9_plan_6 : decode cX9_plan 6 = .ok (.iconst 0, 1) := by decide +kernel
theorem dX9_plan_7 : decode cX9_plan 7 = .ok (.istore 7, 2) := by decide +kernel
theorem dX9_plan_9 : decode cX9_plan 9 = .ok (.iload 7, 2) := by decide +kernel
theorem dX9_plan_11 : decode cX9_plan 11 = .ok (.iload 5, 2) := by decide +kernel
theorem dX9_plan_13 : decode cX9_plan 13 = .ok (.if_icmp .gt 32, 3) := by decide +kernel
theorem dX9_plan_16 : decode cX9_plan 16 = .ok (.aload_n 0, 1) := by decide +kernel
theorem dX9_plan_17 : decode cX9_plan 17 = .ok (.getfield 11, 3) := by decide +kernel
theorem dX9_plan_20 : decode cX9_plan 20 = .ok (.iload 4, 2) := by decide +kernel
theorem dX9_plan_22 : decode cX9_plan 22 = .ok (.aaload, 1) := by decide +kernel
theorem dX9_plan_23 : decode cX9_plan 23 = .ok (.iload 7, 2) := by decide +kernel
theorem dX9_plan_25 : decode cX9_plan 25 = .ok (.iconst 0, 1) := by decide +kernel
theorem dX9_plan_26 : decode cX9_plan 26 = .ok (.iastore, 1) := by decide +kernel
theorem dX9_plan_27 : decode cX9_plan 27 = .ok (.aload_n 0, 1) := by decide +kernel
theorem dX9_plan_28 : decode cX9_plan 28 = .ok (.getfield 16, 3) := by decide +kernel
theorem dX9_plan_31 : decode cX9_plan 31 = .ok (.iload 4, 2) := by decide +kernel
theorem dX9_plan_33 : decode cX9_plan 33 = .ok (.aaload, 1) := by decide +kernel
theorem dX9_plan_34 : decode cX9_plan 34 = .ok (.iload 7, 2) := by decide +kernel
theorem dX9_plan_36 : decode cX9_plan 36 = .ok (.iload 7, 2) := by decide +kernel
theorem dX9_plan_38 : decode cX9_plan 38 = .ok (.iastore, 1) := by decide +kernel
theorem dX9_plan_39 : decode cX9_plan 39 = .ok (.iinc 7 1, 3) := by decide +kernel
theorem dX9_plan_42 : decode cX9_plan 42 = .ok (.goto (-33), 3) := by decide +kernel
theorem dX9_plan_45 : decode cX9_plan 45 = .ok (.iload 4, 2) := by decide +kernel
theorem dX9_plan_47 : decode cX9_plan 47 = .ok (.iconst 1, 1) := by decide +kernel
theorem dX9_plan_48 : decode cX9_plan 48 = .ok (.isub, 1) := by decide +kernel
theorem dX9_plan_49 : decode cX9_plan 49 = .ok (.istore 7, 2) := by decide +kernel
theorem dX9_plan_51 : decode cX9_plan 51 = .ok (.iload 7, 2) := by decide +kernel
theorem dX9_plan_53 : decode cX9_plan 53 = .ok (.ifCond .lt 201, 3) := by decide +kernel
theorem dX9_plan_56 : decode cX9_plan 56 = .ok (.iload 5, 2) := by decide +kernel
theorem dX9_plan_58 : decode cX9_plan 58 = .ok (.iload 4, 2) := by decide +kernel
theorem dX9_plan_60 : decode cX9_plan 60 = .ok (.isub, 1) := by decide +kernel
theorem dX9_plan_61 : decode cX9_plan 61 = .ok (.iload 7, 2) := by decide +kernel
theorem dX9_plan_63 : decode cX9_plan 63 = .ok (.iadd, 1) := by decide +kernel
theorem dX9_plan_64 : decode cX9_plan 64 = .ok (.istore 8, 2) := by decide +kernel
theorem dX9_plan_66 : decode cX9_plan 66 = .ok (.iload 8, 2) := by decide +kernel
theorem dX9_plan_68 : decode cX9_plan 68 = .ok (.istore 9, 2) := by decide +kernel
theorem dX9_plan_70 : decode cX9_plan 70 = .ok (.iload 9, 2) := by decide +kernel
theorem dX9_plan_72 : decode cX9_plan 72 = .ok (.ifCond .lt 176, 3) := by decide +kernel
theorem dX9_plan_75 : decode cX9_plan 75 = .ok (.aload_n 1, 1) := by decide +kernel
theorem dX9_plan_76 : decode cX9_plan 76 = .ok (.iload 6, 2) := by decide +kernel
theorem dX9_plan_78 : decode cX9_plan 78 = .ok (.iload 9, 2) := by decide +kernel
theorem dX9_plan_80 : decode cX9_plan 80 = .ok (.iadd, 1) := by decide +kernel
theorem dX9_plan_81 : decode cX9_plan 81 = .ok (.putfield 26, 3) := by decide +kernel
theorem dX9_plan_84 : decode cX9_plan 84 = .ok (.aload_n 0, 1) := by decide +kernel
theorem dX9_plan_85 : decode cX9_plan 85 = .ok (.getfield 11, 3) := by decide +kernel
theorem dX9_plan_88 : decode cX9_plan 88 = .ok (.iload 7, 2) := by decide +kernel
theorem dX9_plan_90 : decode cX9_plan 90 = .ok (.aaload, 1) := by decide +kernel
theorem dX9_plan_91 : decode cX9_plan 91 = .ok (.iload 9, 2) := by decide +kernel
theorem dX9_plan_93 : decode cX9_plan 93 = .ok (.aload_n 0, 1) := by decide +kernel
theorem dX9_plan_94 : decode cX9_plan 94 = .ok (.getfield 22, 3) := by decide +kernel
theorem dX9_plan_97 : decode cX9_plan 97 = .ok (.aload_n 1, 1) := by decide +kernel
theorem dX9_plan_98 : decode cX9_plan 98 = .ok (.iload_n 3, 1) := by decide +kernel
theorem dX9_plan_99 : decode cX9_plan 99 = .ok (.iload 7, 2) := by decide +kernel
theorem dX9_plan_101 : decode cX9_plan 101 = .ok (.iadd, 1) := by decide +kernel
theorem dX9_plan_102 : decode cX9_plan 102 = .ok (.iload_n 2, 1) := by decide +kernel
theorem dX9_plan_103 : decode cX9_plan 103 = .ok (.invokevirtual 32, 3) := by decide +kernel
theorem dX9_plan_106 : decode cX9_plan 106 = .ok (.aload_n 0, 1) := by decide +kernel
theorem dX9_plan_107 : decode cX9_plan 107 = .ok (.getfield 11, 3) := by decide +kernel
theorem dX9_plan_110 : decode cX9_plan 110 = .ok (.iload 7, 2) := by decide +kernel
theorem dX9_plan_112 : decode cX9_plan 112 = .ok (.iconst 1, 1) := by decide +kernel
theorem dX9_plan_113 : decode cX9_plan 113 = .ok (.iadd, 1) := by decide +kernel
theorem dX9_plan_114 : decode cX9_plan 114 = .ok (.aaload, 1) := by decide +kernel
theorem dX9_plan_115 : decode cX9_plan 115 = .ok (.iload 9, 2) := by decide +kernel
theorem dX9_plan_117 : decode cX9_plan 117 = .ok (.iconst 1, 1) := by decide +kernel
theorem dX9_plan_118 : decode cX9_plan 118 = .ok (.iadd, 1) := by decide +kernel
theorem dX9_plan_119 : decode cX9_plan 119 = .ok (.iaload, 1) := by decide +kernel
theorem dX9_plan_120 : decode cX9_plan 120 = .ok (.iadd, 1) := by decide +kernel
theorem dX9_plan_121 : decode cX9_plan 121 = .ok (.iastore, 1) := by decide +kernel
theorem dX9_plan_122 : decode cX9_plan 122 = .ok (.aload_n 0, 1) := by decide +kernel
theorem dX9_plan_123 : decode cX9_plan 123 = .ok (.getfield 16, 3) := by decide +kernel
theorem dX9_plan_126 : decode cX9_plan 126 = .ok (.iload 7, 2) := by decide +kernel
theorem dX9_plan_128 : decode cX9_plan 128 = .ok (.aaload, 1) := by decide +kernel
theorem dX9_plan_129 : decode cX9_plan 129 = .ok (.iload 9, 2) := by decide +kernel
theorem dX9_plan_131 : decode cX9_plan 131 = .ok (.aload_n 0, 1) := by decide +kernel
theorem dX9_plan_132 : decode cX9_plan 132 = .ok (.getfield 16, 3) := by decide +kernel
theorem dX9_plan_135 : decode cX9_plan 135 = .ok (.iload 7, 2) := by decide +kernel
theorem dX9_plan_137 : decode cX9_plan 137 = .ok (.iconst 1, 1) := by decide +kernel
theorem dX9_plan_138 : decode cX9_plan 138 = .ok (.iadd, 1) := by decide +kernel
theorem dX9_plan_139 : decode cX9_plan 139 = .ok (.aaload, 1) := by decide +kernel
theorem dX9_plan_140 : decode cX9_plan 140 = .ok (.iload 9, 2) := by decide +kernel
theorem dX9_plan_142 : decode cX9_plan 142 = .ok (.iconst 1, 1) := by decide +kernel
theorem dX9_plan_143 : decode cX9_plan 143 = .ok (.iadd, 1) := by decide +kernel
theorem dX9_plan_144 : decode cX9_plan 144 = .ok (.iaload, 1) := by decide +kernel
theorem dX9_plan_145 : decode cX9_plan 145 = .ok (.iastore, 1) := by decide +kernel
theorem dX9_plan_146 : decode cX9_plan 146 = .ok (.aload_n 0, 1) := by decide +kernel
theorem dX9_plan_147 : decode cX9_plan 147 = .ok (.getfield 19, 3) := by decide +kernel
theorem dX9_plan_150 : decode cX9_plan 150 = .ok (.iload 7, 2) := by decide +kernel
theorem dX9_plan_152 : decode cX9_plan 152 = .ok (.aaload, 1) := by decide +kernel
theorem dX9_plan_153 : decode cX9_plan 153 = .ok (.iload 9, 2) := by decide +kernel
theorem dX9_plan_155 : decode cX9_plan 155 = .ok (.iload 9, 2) := by decide +kernel
theorem dX9_plan_157 : decode cX9_plan 157 = .ok (.iastore, 1) := by decide +kernel
theorem dX9_plan_158 : decode cX9_plan 158 = .ok (.iload 9, 2) := by decide +kernel
theorem dX9_plan_160 : decode cX9_plan 160 = .ok (.iload 8, 2) := by decide +kernel
theorem dX9_plan_162 : decode cX9_plan 162 = .ok (.if_icmp .ge 80, 3) := by decide +kernel
theorem dX9_plan_165 : decode cX9_plan 165 = .ok (.aload_n 0, 1) := by decide +kernel
theorem dX9_plan_166 : decode cX9_plan 166 = .ok (.iload 7, 2) := by decide +kernel
theorem dX9_plan_168 : decode cX9_plan 168 = .ok (.iload 9, 2) := by decide +kernel
theorem dX9_plan_170 : decode cX9_plan 170 = .ok (.invokevirtual 38, 3) := by decide +kernel
theorem dX9_plan_173 : decode cX9_plan 173 = .ok (.ifCond .eq 69, 3) := by decide +kernel
theorem dX9_plan_176 : decode cX9_plan 176 = .ok (.aload_n 0, 1) := by decide +kernel
theorem dX9_plan_177 : decode cX9_plan 177 = .ok (.getfield 11, 3) := by decide +kernel
theorem dX9_plan_180 : decode cX9_plan 180 = .ok (.iload 7, 2) := by decide +kernel
theorem dX9_plan_182 : decode cX9_plan 182 = .ok (.aaload, 1) := by decide +kernel
theorem dX9_plan_183 : decode cX9_plan 183 = .ok (.iload 9, 2) := by decide +kernel
theorem dX9_plan_185 : decode cX9_plan 185 = .ok (.aload_n 0, 1) := by decide +kernel
theorem dX9_plan_186 : decode cX9_plan 186 = .ok (.getfield 11, 3) := by decide +kernel
theorem dX9_plan_189 : decode cX9_plan 189 = .ok (.iload 7, 2) := by decide +kernel
theorem dX9_plan_191 : decode cX9_plan 191 = .ok (.aaload, 1) := by decide +kernel
theorem dX9_plan_192 : decode cX9_plan 192 = .ok (.iload 9, 2) := by decide +kernel
theorem dX9_plan_194 : decode cX9_plan 194 = .ok (.iconst 1, 1) := by decide +kernel
theorem dX9_plan_195 : decode cX9_plan 195 = .ok (.iadd, 1) := by decide +kernel
theorem dX9_plan_196 : decode cX9_plan 196 = .ok (.iaload, 1) := by decide +kernel
theorem dX9_plan_197 : decode cX9_plan 197 = .ok (.iastore, 1) := by decide +kernel
theorem dX9_plan_198 : decode cX9_plan 198 = .ok (.aload_n 0, 1) := by decide +kernel
theorem dX9_plan_199 : decode cX9_plan 199 = .ok (.getfield 16, 3) := by decide +kernel
theorem dX9_plan_202 : decode cX9_plan 202 = .ok (.iload 7, 2) := by decide +kernel
theorem dX9_plan_204 : decode cX9_plan 204 = .ok (.aaload, 1) := by decide +kernel
theorem dX9_plan_205 : decode cX9_plan 205 = .ok (.iload 9, 2) := by decide +kernel
theorem dX9_plan_207 : decode cX9_plan 207 = .ok (.aload_n 0, 1) := by decide +kernel
theorem dX9_plan_208 : decode cX9_plan 208 = .ok (.getfield 16, 3) := by decide +kernel
theorem dX9_plan_211 : decode cX9_plan 211 = .ok (.iload 7, 2) := by decide +kernel
theorem dX9_plan_213 : decode cX9_plan 213 = .ok (.aaload, 1) := by decide +kernel
theorem dX9_plan_214 : decode cX9_plan 214 = .ok (.iload 9, 2) := by decide +kernel
theorem dX9_plan_216 : decode cX9_plan 216 = .ok (.iconst 1, 1) := by decide +kernel
theorem dX9_plan_217 : decode cX9_plan 217 = .ok (.iadd, 1) := by decide +kernel
theorem dX9_plan_218 : decode cX9_plan 218 = .ok (.iaload, 1) := by decide +kernel
theorem dX9_plan_219 : decode cX9_plan 219 = .ok (.iastore, 1) := by decide +kernel
theorem dX9_plan_220 : decode cX9_plan 220 = .ok (.aload_n 0, 1) := by decide +kernel
theorem dX9_plan_221 : decode cX9_plan 221 = .ok (.getfield 19, 3) := by decide +kernel
theorem dX9_plan_224 : decode cX9_plan 224 = .ok (.iload 7, 2) := by decide +kernel
theorem dX9_plan_226 : decode cX9_plan 226 = .ok (.aaload, 1) := by decide +kernel
theorem dX9_plan_227 : decode cX9_plan 227 = .ok (.iload 9, 2) := by decide +kernel
theorem dX9_plan_229 : decode cX9_plan 229 = .ok (.aload_n 0, 1) := by decide +kernel
theorem dX9_plan_230 : decode cX9_plan 230 = .ok (.getfield 19, 3) := by decide +kernel
theorem dX9_plan_233 : decode cX9_plan 233 = .ok (.iload 7, 2) := by decide +kernel
theorem dX9_plan_235 : decode cX9_plan 235 = .ok (.aaload, 1) := by decide +kernel
theorem dX9_plan_236 : decode cX9_plan 236 = .ok (.iload 9, 2) := by decide +kernel
theorem dX9_plan_238 : decode cX9_plan 238 = .ok (.iconst 1, 1) := by decide +kernel
theorem dX9_plan_239 : decode cX9_plan 239 = .ok (.iadd, 1) := by decide +kernel
theorem dX9_plan_240 : decode cX9_plan 240 = .ok (.iaload, 1) := by decide +kernel
theorem dX9_plan_241 : decode cX9_plan 241 = .ok (.iastore, 1) := by decide +kernel
theorem dX9_plan_242 : decode cX9_plan 242 = .ok (.iinc 9 (-1), 3) := by decide +kernel
theorem dX9_plan_245 : decode cX9_plan 245 = .ok (.goto (-175), 3) := by decide +kernel
theorem dX9_plan_248 : decode cX9_plan 248 = .ok (.iinc 7 (-1), 3) := by decide +kernel
theorem dX9_plan_251 : decode cX9_plan 251 = .ok (.goto (-200), 3) := by decide +kernel
theorem dX9_plan_254 : decode cX9_plan 254 = .ok (.return_, 1) := by decide +kernel
theorem dX9_isWaitBetter_0 : decode cX9_isWaitBetter 0 = .ok (.aload_n 0, 1) := by decide +kernel
theorem dX9_isWaitBetter_1 : decode cX9_isWaitBetter 1 = .ok (.getfield 11, 3) := by decide +kernel
theorem dX9_isWaitBetter_4 : decode cX9_isWaitBetter 4 = .ok (.iload_n 1, 1) := by decide +kernel
theorem dX9_isWaitBetter_5 : decode cX9_isWaitBetter 5 = .ok (.aaload, 1) := by decide +kernel
theorem dX9_isWaitBetter_6 : decode cX9_isWaitBetter 6 = .ok (.iload_n 2, 1) := by decide +kernel
theorem dX9_isWaitBetter_7 : decode cX9_isWaitBetter 7 = .ok (.iconst 1, 1) := by decide +kernel
theorem dX9_isWaitBetter_8 : decode cX9_isWaitBetter 8 = .ok (.iadd, 1) := by decide +kernel
theorem dX9_isWaitBetter_9 : decode cX9_isWaitBetter 9 = .ok (.iaload, 1) := by decide +kernel
theorem dX9_isWaitBetter_10 : decode cX9_isWaitBetter 10 = .ok (.aload_n 0, 1) := by decide +kernel
theorem dX9_isWaitBetter_11 : decode cX9_isWaitBetter 11 = .ok (.getfield 11, 3) := by decide +kernel
theorem dX9_isWaitBetter_14 : decode cX9_isWaitBetter 14 = .ok (.iload_n 1, 1) := by decide +kernel
theorem dX9_isWaitBetter_15 : decode cX9_isWaitBetter 15 = .ok (.aaload, 1) := by decide +kernel
theorem dX9_isWaitBetter_16 : decode cX9_isWaitBetter 16 = .ok (.iload_n 2, 1) := by decide +kernel
theorem dX9_isWaitBetter_17 : decode cX9_isWaitBetter 17 = .ok (.iaload, 1) := by decide +kernel
theorem dX9_isWaitBetter_18 : decode cX9_isWaitBetter 18 = .ok (.if_icmp .eq 30, 3) := by decide +kernel
theorem dX9_isWaitBetter_21 : decode cX9_isWaitBetter 21 = .ok (.aload_n 0, 1) := by decide +kernel
theorem dX9_isWaitBetter_22 : decode cX9_isWaitBetter 22 = .ok (.getfield 11, 3) := by decide +kernel
theorem dX9_isWaitBetter_25 : decode cX9_isWaitBetter 25 = .ok (.iload_n 1, 1) := by decide +kernel
theorem dX9_isWaitBetter_26 : decode cX9_isWaitBetter 26 = .ok (.aaload, 1) := by decide +kernel
theorem dX9_isWaitBetter_27 : decode cX9_isWaitBetter 27 = .ok (.iload_n 2, 1) := by decide +kernel
theorem dX9_isWaitBetter_28 : decode cX9_isWaitBetter 28 = .ok (.iconst 1, 1) := by decide +kernel
theorem dX9_isWaitBetter_29 : decode cX9_isWaitBetter 29 = .ok (.iadd, 1) := by decide +kernel
theorem dX9_isWaitBetter_30 : decode cX9_isWaitBetter 30 = .ok (.iaload, 1) := by decide +kernel
theorem dX9_isWaitBetter_31 : decode cX9_isWaitBetter 31 = .ok (.aload_n 0, 1) := by decide +kernel
theorem dX9_isWaitBetter_32 : decode cX9_isWaitBetter 32 = .ok (.getfield 11, 3) := by decide +kernel
theorem dX9_isWaitBetter_35 : decode cX9_isWaitBetter 35 = .ok (.iload_n 1, 1) := by decide +kernel
theorem dX9_isWaitBetter_36 : decode cX9_isWaitBetter 36 = .ok (.aaload, 1) := by decide +kernel
theorem dX9_isWaitBetter_37 : decode cX9_isWaitBetter 37 = .ok (.iload_n 2, 1) := by decide +kernel
theorem dX9_isWaitBetter_38 : decode cX9_isWaitBetter 38 = .ok (.iaload, 1) := by decide +kernel
theorem dX9_isWaitBetter_39 : decode cX9_isWaitBetter 39 = .ok (.if_icmp .ge 7, 3) := by decide +kernel
theorem dX9_isWaitBetter_42 : decode cX9_isWaitBetter 42 = .ok (.iconst 1, 1) := by decide +kernel
theorem dX9_isWaitBetter_43 : decode cX9_isWaitBetter 43 = .ok (.goto 4, 3) := by decide +kernel
theorem dX9_isWaitBetter_46 : decode cX9_isWaitBetter 46 = .ok (.iconst 0, 1) := by decide +kernel
theorem dX9_isWaitBetter_47 : decode cX9_isWaitBetter 47 = .ok (.ireturn, 1) := by decide +kernel
theorem dX9_isWaitBetter_48 : decode cX9_isWaitBetter 48 = .ok (.aload_n 0, 1) := by decide +kernel
theorem dX9_isWaitBetter_49 : decode cX9_isWaitBetter 49 = .ok (.getfield 16, 3) := by decide +kernel
theorem dX9_isWaitBetter_52 : decode cX9_isWaitBetter 52 = .ok (.iload_n 1, 1) := by decide +kernel
theorem dX9_isWaitBetter_53 : decode cX9_isWaitBetter 53 = .ok (.aaload, 1) := by decide +kernel
theorem dX9_isWaitBetter_54 : decode cX9_isWaitBetter 54 = .ok (.iload_n 2, 1) := by decide +kernel
theorem dX9_isWaitBetter_55 : decode cX9_isWaitBetter 55 = .ok (.iconst 1, 1) := by decide +kernel
theorem dX9_isWaitBetter_56 : decode cX9_isWaitBetter 56 = .ok (.iadd, 1) := by decide +kernel
theorem dX9_isWaitBetter_57 : decode cX9_isWaitBetter 57 = .ok (.iaload, 1) := by decide +kernel
theorem dX9_isWaitBetter_58 : decode cX9_isWaitBetter 58 = .ok (.aload_n 0, 1) := by decide +kernel
theorem dX9_isWaitBetter_59 : decode cX9_isWaitBetter 59 = .ok (.getfield 16, 3) := by decide +kernel
theorem dX9_isWaitBetter_62 : decode cX9_isWaitBetter 62 = .ok (.iload_n 1, 1) := by decide +kernel
theorem dX9_isWaitBetter_63 : decode cX9_isWaitBetter 63 = .ok (.aaload, 1) := by decide +kernel
theorem dX9_isWaitBetter_64 : decode cX9_isWaitBetter 64 = .ok (.iload_n 2, 1) := by decide +kernel
theorem dX9_isWaitBetter_65 : decode cX9_isWaitBetter 65 = .ok (.iaload, 1) := by decide +kernel
theorem dX9_isWaitBetter_66 : decode cX9_isWaitBetter 66 = .ok (.if_icmp .ge 7, 3) := by decide +kernel
theorem dX9_isWaitBetter_69 : decode cX9_isWaitBetter 69 = .ok (.iconst 1, 1) := by decide +kernel
theorem dX9_isWaitBetter_70 : decode cX9_isWaitBetter 70 = .ok (.goto 4, 3) := by decide +kernel
theorem dX9_isWaitBetter_73 : decode cX9_isWaitBetter 73 = .ok (.iconst 0, 1) := by decide +kernel
theorem dX9_isWaitBetter_74 : decode cX9_isWaitBetter 74 = .ok (.ireturn, 1) := by decide +kernel
theorem dX9_hoursAheadOf_0 : decode cX9_hoursAheadOf 0 = .ok (.aload_n 0, 1) := by decide +kernel
theorem dX9_hoursAheadOf_1 : decode cX9_hoursAheadOf 1 = .ok (.getfield 19, 3) := by decide +kernel
theorem dX9_hoursAheadOf_4 : decode cX9_hoursAheadOf 4 = .ok (.iconst 0, 1) := by decide +kernel
theorem dX9_hoursAheadOf_5 : decode cX9_hoursAheadOf 5 = .ok (.aaload, 1) := by decide +kernel
theorem dX9_hoursAheadOf_6 : decode cX9_hoursAheadOf 6 = .ok (.iconst 0, 1) := by decide +kernel
theorem dX9_hoursAheadOf_7 : decode cX9_hoursAheadOf 7 = .ok (.iaload, 1) := by decide +kernel
theorem dX9_hoursAheadOf_8 : decode cX9_hoursAheadOf 8 = .ok (.istore_n 2, 1) := by decide +kernel
theorem dX9_hoursAheadOf_9 : decode cX9_hoursAheadOf 9 = .ok (.iconst 1, 1) := by decide +kernel
theorem dX9_hoursAheadOf_10 : decode cX9_hoursAheadOf 10 = .ok (.istore_n 3, 1) := by decide +kernel
theorem dX9_hoursAheadOf_11 : decode cX9_hoursAheadOf 11 = .ok (.iload_n 3, 1) := by decide +kernel
theorem dX9_hoursAheadOf_12 : decode cX9_hoursAheadOf 12 = .ok (.iload_n 1, 1) := by decide +kernel
theorem dX9_hoursAheadOf_13 : decode cX9_hoursAheadOf 13 = .ok (.if_icmp .gt 20, 3) := by decide +kernel
theorem dX9_hoursAheadOf_16 : decode cX9_hoursAheadOf 16 = .ok (.aload_n 0, 1) := by decide +kernel
theorem dX9_hoursAheadOf_17 : decode cX9_hoursAheadOf 17 = .ok (.getfield 19, 3) := by decide +kernel
theorem dX9_hoursAheadOf_20 : decode cX9_hoursAheadOf 20 = .ok (.iload_n 3, 1) := by decide +kernel
theorem dX9_hoursAheadOf_21 : decode cX9_hoursAheadOf 21 = .ok (.aaload, 1) := by decide +kernel
theorem dX9_hoursAheadOf_22 : decode cX9_hoursAheadOf 22 = .ok (.iload_n 2, 1) := by decide +kernel
theorem dX9_hoursAheadOf_23 : decode cX9_hoursAheadOf 23 = .ok (.iconst 1, 1) := by decide +kernel
theorem dX9_hoursAheadOf_24 : decode cX9_hoursAheadOf 24 = .ok (.iadd, 1) := by decide +kernel
theorem dX9_hoursAheadOf_25 : decode cX9_hoursAheadOf 25 = .ok (.iaload, 1) := by decide +kernel
theorem dX9_hoursAheadOf_26 : decode cX9_hoursAheadOf 26 = .ok (.istore_n 2, 1) := by decide +kernel
theorem dX9_hoursAheadOf_27 : decode cX9_hoursAheadOf 27 = .ok (.iinc 3 1, 3) := by decide +kernel
theorem dX9_hoursAheadOf_30 : decode cX9_hoursAheadOf 30 = .ok (.goto (-19), 3) := by decide +kernel
theorem dX9_hoursAheadOf_33 : decode cX9_hoursAheadOf 33 = .ok (.iload_n 2, 1) := by decide +kernel
theorem dX9_hoursAheadOf_34 : decode cX9_hoursAheadOf 34 = .ok (.ireturn, 1) := by decide +kernel
theorem dX10_init_0 : decode cX10_init 0 = .ok (.aload_n 0, 1) := by decide +kernel
theorem dX10_init_1 : decode cX10_init 1 = .ok (.invokespecial 3, 3) := by decide +kernel
theorem dX10_init_4 : decode cX10_init 4 = .ok (.aload_n 0, 1) := by decide +kernel
theorem dX10_init_5 : decode cX10_init 5 = .ok (.new 9, 3) := by decide +kernel
theorem dX10_init_8 : decode cX10_init 8 = .ok (.dup, 1) := by decide +kernel
theorem dX10_init_9 : decode cX10_init 9 = .ok (.invokespecial 11, 3) := by decide +kernel
theorem dX10_init_12 : decode cX10_init 12 = .ok (.putfield 12, 3) := by decide +kernel
theorem dX10_init_15 : decode cX10_init 15 = .ok (.aload_n 0, 1) := by decide +kernel
theorem dX10_init_16 : decode cX10_init 16 = .ok (.new 18, 3) := by decide +kernel
theorem dX10_init_19 : decode cX10_init 19 = .ok (.dup, 1) := by decide +kernel
theorem dX10_init_20 : decode cX10_init 20 = .ok (.invokespecial 20, 3) := by decide +kernel
theorem dX10_init_23 : decode cX10_init 23 = .ok (.putfield 21, 3) := by decide +kernel
theorem dX10_init_26 : decode cX10_init 26 = .ok (.aload_n 0, 1) := by decide +kernel
theorem dX10_init_27 : decode cX10_init 27 = .ok (.new 25, 3) := by decide +kernel
theorem dX10_init_30 : decode cX10_init 30 = .ok (.dup, 1) := by decide +kernel
theorem dX10_init_31 : decode cX10_init 31 = .ok (.invokespecial 27, 3) := by decide +kernel
theorem dX10_init_34 : decode cX10_init 34 = .ok (.putfield 28, 3) := by decide +kernel
theorem dX10_init_37 : decode cX10_init 37 = .ok (.aload_n 0, 1) := by decide +kernel
theorem dX10_init_38 : decode cX10_init 38 = .ok (.iconst (-1), 1) := by decide +kernel
theorem dX10_init_39 : decode cX10_init 39 = .ok (.putfield 32, 3) := by decide +kernel
theorem dX10_init_42 : decode cX10_init 42 = .ok (.return_, 1) := by decide +kernel
theorem dX10_copyFrom_0 : decode cX10_copyFrom 0 = .ok (.aload_n 0, 1) := by decide +kernel
theorem dX10_copyFrom_1 : decode cX10_copyFrom 1 = .ok (.getfield 12, 3) := by decide +kernel
theorem dX10_copyFrom_4 : decode cX10_copyFrom 4 = .ok (.aload_n 1, 1) := by decide +kernel
theorem dX10_copyFrom_5 : decode cX10_copyFrom 5 = .ok (.getfield 12, 3) := by decide +kernel
theorem dX10_copyFrom_8 : decode cX10_copyFrom 8 = .ok (.invokevirtual 36, 3) := by decide +kernel
theorem dX10_copyFrom_11 : decode cX10_copyFrom 11 = .ok (.aload_n 0, 1) := by decide +kernel
theorem dX10_copyFrom_12 : decode cX10_copyFrom 12 = .ok (.getfield 21, 3) := by decide +kernel
theorem dX10_copyFrom_15 : decode cX10_copyFrom 15 = .ok (.aload_n 1, 1) := by decide +kernel
theorem dX10_copyFrom_16 : decode cX10_copyFrom 16 = .ok (.getfield 21, 3) := by decide +kernel
theorem dX10_copyFrom_19 : decode cX10_copyFrom 19 = .ok (.invokevirtual 40, 3) := by decide +kernel
theorem dX10_copyFrom_22 : decode cX10_copyFrom 22 = .ok (.aload_n 0, 1) := by decide +kernel
theorem dX10_copyFrom_23 : decode cX10_copyFrom 23 = .ok (.getfield 28, 3) := by decide +kernel
theorem dX10_copyFrom_26 : decode cX10_copyFrom 26 = .ok (.aload_n 1, 1) := by decide +kernel
theorem dX10_copyFrom_27 : decode cX10_copyFrom 27 = .ok (.getfield 28, 3) := by decide +kernel
theorem dX10_copyFrom_30 : decode cX10_copyFrom 30 = .ok (.invokevirtual 43, 3) := by decide +kernel
theorem dX10_copyFrom_33 : decode cX10_copyFrom 33 = .ok (.aload_n 0, 1) := by decide +kernel
theorem dX10_copyFrom_34 : decode cX10_copyFrom 34 = .ok (.aload_n 1, 1) := by decide +kernel
theorem dX10_copyFrom_35 : decode cX10_copyFrom 35 = .ok (.getfield 46, 3) := by decide +kernel
theorem dX10_copyFrom_38 : decode cX10_copyFrom 38 = .ok (.putfield 46, 3) := by decide +kernel
theorem dX10_copyFrom_41 : decode cX10_copyFrom 41 = .ok (.aload_n 0, 1) := by decide +kernel
theorem dX10_copyFrom_42 : decode cX10_copyFrom 42 = .ok (.aload_n 1, 1) := by decide +kernel
theorem dX10_copyFrom_43 : decode cX10_copyFrom 43 = .ok (.getfield 32, 3) := by decide +kernel
theorem dX10_copyFrom_46 : decode cX10_copyFrom 46 = .ok (.putfield 32, 3) := by decide +kernel
theorem dX10_copyFrom_49 : decode cX10_copyFrom 49 = .ok (.return_, 1) := by decide +kernel
theorem dX11_init_0 : decode cX11_init 0 = .ok (.aload_n 0, 1) := by decide +kernel
theorem dX11_init_1 : decode cX11_init 1 = .ok (.invokespecial 3, 3) := by decide +kernel
theorem dX11_init_4 : decode cX11_init 4 = .ok (.aload_n 0, 1) := by decide +kernel
theorem dX11_init_5 : decode cX11_init 5 = .ok (.new 9, 3) := by decide +kernel
theorem dX11_init_8 : decode cX11_init 8 = .ok (.dup, 1) := by decide +kernel
theorem dX11_init_9 : decode cX11_init 9 = .ok (.invokespecial 11, 3) := by decide +kernel
theorem dX11_init_12 : decode cX11_init 12 = .ok (.putfield 12, 3) := by decide +kernel
theorem dX11_init_15 : decode cX11_init 15 = .ok (.aload_n 0, 1) := by decide +kernel
theorem dX11_init_16 : decode cX11_init 16 = .ok (.new 9, 3) := by decide +kernel
theorem dX11_init_19 : decode cX11_init 19 = .ok (.dup, 1) := by decide +kernel
theorem dX11_init_20 : decode cX11_init 20 = .ok (.invokespecial 11, 3) := by decide +kernel
theorem dX11_init_23 : decode cX11_init 23 = .ok (.putfield 16, 3) := by decide +kernel
theorem dX11_init_26 : decode cX11_init 26 = .ok (.aload_n 0, 1) := by decide +kernel
theorem dX11_init_27 : decode cX11_init 27 = .ok (.aload_n 0, 1) := by decide +kernel
theorem dX11_init_28 : decode cX11_init 28 = .ok (.getfield 12, 3) := by decide +kernel
theorem dX11_init_31 : decode cX11_init 31 = .ok (.getfield 19, 3) := by decide +kernel
theorem dX11_init_34 : decode cX11_init 34 = .ok (.putfield 23, 3) := by decide +kernel
theorem dX11_init_37 : decode cX11_init 37 = .ok (.aload_n 0, 1) := by decide +kernel
theorem dX11_init_38 : decode cX11_init 38 = .ok (.aload_n 0, 1) := by decide +kernel
theorem dX11_init_39 : decode cX11_init 39 = .ok (.getfield 12, 3) := by decide +kernel
theorem dX11_init_42 : decode cX11_init 42 = .ok (.getfield 24, 3) := by decide +kernel
theorem dX11_init_45 : decode cX11_init 45 = .ok (.putfield 28, 3) := by decide +kernel
theorem dX11_init_48 : decode cX11_init 48 = .ok (.aload_n 0, 1) := by decide +kernel
theorem dX11_init_49 : decode cX11_init 49 = .ok (.iconst 4, 1) := by decide +kernel
theorem dX11_init_50 : decode cX11_init 50 = .ok (.anewarray 29, 3) := by decide +kernel
theorem dX11_init_53 : decode cX11_init 53 = .ok (.putfield 31, 3) := by decide +kernel
theorem dX11_init_56 : decode cX11_init 56 = .ok (.aload_n 0, 1) := by decide +kernel
theorem dX11_init_57 : decode cX11_init 57 = .ok (.new 35, 3) := by decide +kernel
theorem dX11_init_60 : decode cX11_init 60 = .ok (.dup, 1) := by decide +kernel
theorem dX11_init_61 : decode cX11_init 61 = .ok (.invokespecial 37, 3) := by decide +kernel
theorem dX11_init_64 : decode cX11_init 64 = .ok (.putfield 38, 3) := by decide +kernel
theorem dX11_init_67 : decode cX11_init 67 = .ok (.aload_n 0, 1) := by decide +kernel
theorem dX11_init_68 : decode cX11_init 68 = .ok (.new 42, 3) := by decide +kernel
theorem dX11_init_71 : decode cX11_init 71 = .ok (.dup, 1) := by decide +kernel
theorem dX11_init_72 : decode cX11_init 72 = .ok (.invokespecial 44, 3) := by decide +kernel
theorem dX11_init_75 : decode cX11_init 75 = .ok (.putfield 45, 3) := by decide +kernel
theorem dX11_init_78 : decode cX11_init 78 = .ok (.aload_n 0, 1) := by decide +kernel
theorem dX11_init_79 : decode cX11_init 79 = .ok (.new 49, 3) := by decide +kernel
theorem dX11_init_82 : decode cX11_init 82 = .ok (.dup, 1) := by decide +kernel
theorem dX11_init_83 : decode cX11_init 83 = .ok (.aload_n 0, 1) := by decide +kernel
theorem dX11_init_84 : decode cX11_init 84 = .ok (.getfield 45, 3) := by decide +kernel
theorem dX11_init_87 : decode cX11_init 87 = .ok (.invokespecial 51, 3) := by decide +kernel
theorem dX11_init_90 : decode cX11_init 90 = .ok (.putfield 54, 3) := by decide +kernel
theorem dX11_init_93 : decode cX11_init 93 = .ok (.aload_n 0, 1) := by decide +kernel
theorem dX11_init_94 : decode cX11_init 94 = .ok (.new 58, 3) := by decide +kernel
theorem dX11_init_97 : decode cX11_init 97 = .ok (.dup, 1) := by decide +kernel
theorem dX11_init_98 : decode cX11_init 98 = .ok (.aload_n 0, 1) := by decide +kernel
theorem dX11_init_99 : decode cX11_init 99 = .ok (.getfield 45, 3) := by decide +kernel
theorem dX11_init_102 : decode cX11_init 102 = .ok (.invokespecial 60, 3) := by decide +kernel
theorem dX11_init_105 : decode cX11_init 105 = .ok (.putfield 61, 3) := by decide +kernel
theorem dX11_init_108 : decode cX11_init 108 = .ok (.aload_n 0, 1) := by decide +kernel
theorem dX11_init_109 : decode cX11_init 109 = .ok (.new 65, 3) := by decide +kernel
theorem dX11_init_112 : decode cX11_init 112 = .ok (.dup, 1) := by decide +kernel
theorem dX11_init_113 : decode cX11_init 113 = .ok (.aload_n 0, 1) := by decide +kernel
theorem dX11_init_114 : decode cX11_init 114 = .ok (.getfield 45, 3) := by decide +kernel
theorem dX11_init_117 : decode cX11_init 117 = .ok (.invokespecial 67, 3) := by decide +kernel
theorem dX11_init_120 : decode cX11_init 120 = .ok (.putfield 68, 3) := by decide +kernel
theorem dX11_init_123 : decode cX11_init 123 = .ok (.aload_n 0, 1) := by decide +kernel
theorem dX11_init_124 : decode cX11_init 124 = .ok (.new 72, 3) := by decide +kernel
theorem dX11_init_127 : decode cX11_init 127 = .ok (.dup, 1) := by decide +kernel
theorem dX11_init_128 : decode cX11_init 128 = .ok (.invokespecial 74, 3) := by decide +kernel
theorem dX11_init_131 : decode cX11_init 131 = .ok (.putfield 75, 3) := by decide +kernel
theorem dX11_init_134 : decode cX11_init 134 = .ok (.aload_n 0, 1) := by decide +kernel
theorem dX11_init_135 : decode cX11_init 135 = .ok (.new 79, 3) := by decide +kernel
theorem dX11_init_138 : decode cX11_init 138 = .ok (.dup, 1) := by decide +kernel
theorem dX11_init_139 : decode cX11_init 139 = .ok (.invokespecial 81, 3) := by decide +kernel
theorem dX11_init_142 : decode cX11_init 142 = .ok (.putfield 82, 3) := by decide +kernel
theorem dX11_init_145 : decode cX11_init 145 = .ok (.iconst 0, 1) := by decide +kernel
theorem dX11_init_146 : decode cX11_init 146 = .ok (.istore_n 1, 1) := by decide +kernel
theorem dX11_init_147 : decode cX11_init 147 = .ok (.iload_n 1, 1) := by decide +kernel
theorem dX11_init_148 : decode cX11_init 148 = .ok (.iconst 4, 1) := by decide +kernel
theorem dX11_init_149 : decode cX11_init 149 = .ok (.if_icmp .ge 22, 3) := by decide +kernel
theorem dX11_init_152 : decode cX11_init 152 = .ok (.aload_n 0, 1) := by decide +kernel
theorem dX11_init_153 : decode cX11_init 153 = .ok (.getfield 31, 3) := by decide +kernel
theorem dX11_init_156 : decode cX11_init 156 = .ok (.iload_n 1, 1) := by decide +kernel
theorem dX11_init_157 : decode cX11_init 157 = .ok (.new 29, 3) := by decide +kernel
theorem dX11_init_160 : decode cX11_init 160 = .ok (.dup, 1) := by decide +kernel
theorem dX11_init_161 : decode cX11_init 161 = .ok (.invokespecial 85, 3) := by decide +kernel
theorem dX11_init_164 : decode cX11_init 164 = .ok (.aastore, 1) := by decide +kernel
theorem dX11_init_165 : decode cX11_init 165 = .ok (.iinc 1 1, 3) := by decide +kernel
theorem dX11_init_168 : decode cX11_init 168 = .ok (.goto (-21), 3) := by decide +kernel
theorem dX11_init_171 : decode cX11_init 171 = .ok (.return_, 1) := by decide +kernel
theorem dX11_step_0 : decode cX11_step 0 = .ok (.iconst 1, 1) := by decide +kernel
theorem dX11_step_1 : decode cX11_step 1 = .ok (.iload_n 1, 1) := by decide +kernel
theorem dX11_step_2 : decode cX11_step 2 = .ok (.bipush 99, 2) := by decide +kernel
theorem dX11_step_4 : decode cX11_step 4 = .ok (.invokestatic 86, 3) := by decide +kernel
theorem dX11_step_7 : decode cX11_step 7 = .ok (.ifCond .eq 13, 3) := by decide +kernel
theorem dX11_step_10 : decode cX11_step 10 = .ok (.iconst 0, 1) := by decide +kernel
theorem dX11_step_11 : decode cX11_step 11 = .ok (.iload_n 2, 1) := by decide +kernel
theorem dX11_step_12 : decode cX11_step 12 = .ok (.bipush 99, 2) := by decide +kernel
theorem dX11_step_14 : decode cX11_step 14 = .ok (.invokestatic 86, 3) := by decide +kernel
theorem dX11_step_17 : decode cX11_step 17 = .ok (.ifCond .ne 5, 3) := by decide +kernel
theorem dX11_step_20 : decode cX11_step 20 = .ok (.iconst (-1), 1) := by decide +kernel
theorem dX11_step_21 : decode cX11_step 21 = .ok (.ireturn, 1) := by decide +kernel
theorem dX11_step_22 : decode cX11_step 22 = .ok (.iconst 0, 1) := by decide +kernel
theorem dX11_step_23 : decode cX11_step 23 = .ok (.iload_n 3, 1) := by decide +kernel
theorem dX11_step_24 : decode cX11_step 24 = .ok (.sipush 999, 3) := by decide +kernel
theorem dX11_step_27 : decode cX11_step 27 = .ok (.invokestatic 86, 3) := by decide +kernel
theorem dX11_step_30 : decode cX11_step 30 = .ok (.ifCond .eq 27, 3) := by decide +kernel
theorem dX11_step_33 : decode cX11_step 33 = .ok (.iconst 0, 1) := by decide +kernel
theorem dX11_step_34 : decode cX11_step 34 = .ok (.iload 4, 2) := by decide +kernel
theorem dX11_step_36 : decode cX11_step 36 = .ok (.sipush 999, 3) := by decide +kernel
theorem dX11_step_39 : decode cX11_step 39 = .ok (.invokestatic 86, 3) := by decide +kernel
theorem dX11_step_42 : decode cX11_step 42 = .ok (.ifCond .eq 15, 3) := by decide +kernel
theorem dX11_step_45 : decode cX11_step 45 = .ok (.aload_n 0, 1) := by decide +kernel
theorem dX11_step_46 : decode cX11_step 46 = .ok (.getfield 23, 3) := by decide +kernel
theorem dX11_step_49 : decode cX11_step 49 = .ok (.getfield 90, 3) := by decide +kernel
theorem dX11_step_52 : decode cX11_step 52 = .ok (.bipush 9, 2) := by decide +kernel
theorem dX11_step_54 : decode cX11_step 54 = .ok (.if_icmp .lt 5, 3) := by decide +kernel
theorem dX11_step_57 : decode cX11_step 57 = .ok (.iconst (-1), 1) := by decide +kernel
theorem dX11_step_58 : decode cX11_step 58 = .ok (.ireturn, 1) := by decide +kernel
theorem dX11_step_59 : decode cX11_step 59 = .ok (.aload_n 0, 1) := by decide +kernel
theorem dX11_step_60 : decode cX11_step 60 = .ok (.getfield 23, 3) := by decide +kernel
theorem dX11_step_63 : decode cX11_step 63 = .ok (.iload_n 1, 1) := by decide +kernel
theorem dX11_step_64 : decode cX11_step 64 = .ok (.iload_n 2, 1) := by decide +kernel
theorem dX11_step_65 : decode cX11_step 65 = .ok (.iload_n 3, 1) := by decide +kernel
theorem dX11_step_66 : decode cX11_step 66 = .ok (.iload 4, 2) := by decide +kernel
theorem dX11_step_68 : decode cX11_step 68 = .ok (.invokevirtual 94, 3) := by decide +kernel
theorem dX11_step_71 : decode cX11_step 71 = .ok (.ireturn, 1) := by decide +kernel
theorem dX11_ship_0 : decode cX11_ship 0 = .ok (.iload_n 1, 1) := by decide +kernel
theorem dX11_ship_1 : decode cX11_ship 1 = .ok (.invokestatic 98, 3) := by decide +kernel
theorem dX11_ship_4 : decode cX11_ship 4 = .ok (.ifCond .eq 31, 3) := by decide +kernel
theorem dX11_ship_7 : decode cX11_ship 7 = .ok (.aload_n 0, 1) := by decide +kernel
theorem dX11_ship_8 : decode cX11_ship 8 = .ok (.iload_n 2, 1) := by decide +kernel
theorem dX11_ship_9 : decode cX11_ship 9 = .ok (.invokevirtual 102, 3) := by decide +kernel
theorem dX11_ship_12 : decode cX11_ship 12 = .ok (.ifCond .eq 23, 3) := by decide +kernel
theorem dX11_ship_15 : decode cX11_ship 15 = .ok (.aload_n 0, 1) := by decide +kernel
theorem dX11_ship_16 : decode cX11_ship 16 = .ok (.iload_n 3, 1) := by decide +kernel
theorem dX11_ship_17 : decode cX11_ship 17 = .ok (.invokevirtual 102, 3) := by decide +kernel
theorem dX11_ship_20 : decode cX11_ship 20 = .ok (.ifCond .eq 15, 3) := by decide +kernel
theorem dX11_ship_23 : decode cX11_ship 23 = .ok (.aload_n 0, 1) := by decide +kernel
theorem dX11_ship_24 : decode cX11_ship 24 = .ok (.getfield 23, 3) := by decide +kernel
theorem dX11_ship_27 : decode cX11_ship 27 = .ok (.getfield 105, 3) := by decide +kernel
theorem dX11_ship_30 : decode cX11_ship 30 = .ok (.bipush 7, 2) := by decide +kernel
theorem dX11_ship_32 : decode cX11_ship 32 = .ok (.if_icmp .lt 5, 3) := by decide +kernel
theorem dX11_ship_35 : decode cX11_ship 35 = .ok (.iconst (-1), 1) := by decide +kernel
theorem dX11_ship_36 : decode cX11_ship 36 = .ok (.ireturn, 1) := by decide +kernel
theorem dX11_ship_37 : decode cX11_ship 37 = .ok (.aload_n 0, 1) := by decide +kernel
theorem dX11_ship_38 : decode cX11_ship 38 = .ok (.getfield 23, 3) := by decide +kernel
theorem dX11_ship_41 : decode cX11_ship 41 = .ok (.iload_n 1, 1) := by decide +kernel
theorem dX11_ship_42 : decode cX11_ship 42 = .ok (.iload_n 2, 1) := by decide +kernel
theorem dX11_ship_43 : decode cX11_ship 43 = .ok (.iload_n 3, 1) := by decide +kernel
theorem dX11_ship_44 : decode cX11_ship 44 = .ok (.invokevirtual 108, 3) := by decide +kernel
theorem dX11_ship_47 : decode cX11_ship 47 = .ok (.ireturn, 1) := by decide +kernel
theorem dX11_feed_0 : decode cX11_feed 0 = .ok (.aload_n 0, 1) := by decide +kernel
theorem dX11_feed_1 : decode cX11_feed 1 = .ok (.getfield 38, 3) := by decide +kernel
theorem dX11_feed_4 : decode cX11_feed 4 = .ok (.getfield 112, 3) := by decide +kernel
theorem dX11_feed_7 : decode cX11_feed 7 = .ok (.bipush 20, 2) := by decide +kernel
theorem dX11_feed_9 : decode cX11_feed 9 = .ok (.iadd, 1) := by decide +kernel
theorem dX11_feed_10 : decode cX11_feed 10 = .ok (.sipush 300, 3) := by decide +kernel
theorem dX11_feed_13 : decode cX11_feed 13 = .ok (.if_icmp .le 5, 3) := by decide +kernel
theorem dX11_feed_16 : decode cX11_feed 16 = .ok (.iconst (-1), 1) := by decide +kernel
theorem dX11_feed_17 : decode cX11_feed 17 = .ok (.ireturn, 1) := by decide +kernel
theorem dX11_feed_18 : decode cX11_feed 18 = .ok (.aload_n 0, 1) := by decide +kernel
theorem dX11_feed_19 : decode cX11_feed 19 = .ok (.getfield 38, 3) := by decide +kernel
theorem dX11_feed_22 : decode cX11_feed 22 = .ok (.iload_n 1, 1) := by decide +kernel
theorem dX11_feed_23 : decode cX11_feed 23 = .ok (.invokevirtual 115, 3) := by decide +kernel
theorem dX11_feed_26 : decode cX11_feed 26 = .ok (.aload_n 0, 1) := by decide +kernel
theorem dX11_feed_27 : decode cX11_feed 27 = .ok (.getfield 38, 3) := by decide +kernel
theorem dX11_feed_30 : decode cX11_feed 30 = .ok (.iload_n 2, 1) := by decide +kernel
theorem dX11_feed_31 : decode cX11_feed 31 = .ok (.invokevirtual 115, 3) := by decide +kernel
theorem dX11_feed_34 : decode cX11_feed 34 = .ok (.aload_n 0, 1) := by decide +kernel
theorem dX11_feed_35 : decode cX11_feed 35 = .ok (.getfield 38, 3) := by decide +kernel
theorem dX11_feed_38 : decode cX11_feed 38 = .ok (.iload_n 3, 1) := by decide +kernel
theorem dX11_feed_39 : decode cX11_feed 39 = .ok (.invokevirtual 115, 3) := by decide +kernel
theorem dX11_feed_42 : decode cX11_feed 42 = .ok (.aload_n 0, 1) := by decide +kernel
theorem dX11_feed_43 : decode cX11_feed 43 = .ok (.getfield 38, 3) := by decide +kernel
theorem dX11_feed_46 : decode cX11_feed 46 = .ok (.iload 4, 2) := by decide +kernel
theorem dX11_feed_48 : decode cX11_feed 48 = .ok (.invokevirtual 115, 3) := by decide +kernel
theorem dX11_feed_51 : decode cX11_feed 51 = .ok (.aload_n 0, 1) := by decide +kernel
theorem dX11_feed_52 : decode cX11_feed 52 = .ok (.getfield 38, 3) := by decide +kernel
theorem dX11_feed_55 : decode cX11_feed 55 = .ok (.iload 5, 2) := by decide +kernel
theorem dX11_feed_57 : decode cX11_feed 57 = .ok (.invokevirtual 115, 3) := by decide +kernel
theorem dX11_feed_60 : decode cX11_feed 60 = .ok (.aload_n 0, 1) := by decide +kernel
theorem dX11_feed_61 : decode cX11_feed 61 = .ok (.getfield 38, 3) := by decide +kernel
theorem dX11_feed_64 : decode cX11_feed 64 = .ok (.getfield 112, 3) := by decide +kernel
theorem dX11_feed_67 : decode cX11_feed 67 = .ok (.ireturn, 1) := by decide +kernel
theorem dX11_end_0 : decode cX11_end 0 = .ok (.iconst 0, 1) := by decide +kernel
theorem dX11_end_1 : decode cX11_end 1 = .ok (.iload_n 1, 1) := by decide +kernel
theorem dX11_end_2 : decode cX11_end 2 = .ok (.aload_n 0, 1) := by decide +kernel
theorem dX11_end_3 : decode cX11_end 3 = .ok (.getfield 38, 3) := by decide +kernel
theorem dX11_end_6 : decode cX11_end 6 = .ok (.getfield 112, 3) := by decide +kernel
theorem dX11_end_9 : decode cX11_end 9 = .ok (.invokestatic 86, 3) := by decide +kernel
theorem dX11_end_12 : decode cX11_end 12 = .ok (.ifCond .ne 5, 3) := by decide +kernel
theorem dX11_end_15 : decode cX11_end 15 = .ok (.iconst (-1), 1) := by decide +kernel
theorem dX11_end_16 : decode cX11_end 16 = .ok (.ireturn, 1) := by decide +kernel
theorem dX11_end_17 : decode cX11_end 17 = .ok (.aload_n 0, 1) := by decide +kernel
theorem dX11_end_18 : decode cX11_end 18 = .ok (.getfield 38, 3) := by decide +kernel
theorem dX11_end_21 : decode cX11_end 21 = .ok (.iload_n 1, 1) := by decide +kernel
theorem dX11_end_22 : decode cX11_end 22 = .ok (.putfield 112, 3) := by decide +kernel
theorem dX11_end_25 : decode cX11_end 25 = .ok (.iload_n 1, 1) := by decide +kernel
theorem dX11_end_26 : decode cX11_end 26 = .ok (.ireturn, 1) := by decide +kernel
theorem dX11_text_0 : decode cX11_text 0 = .ok (.aload_n 0, 1) := by decide +kernel
theorem dX11_text_1 : decode cX11_text 1 = .ok (.getfield 12, 3) := by decide +kernel
theorem dX11_text_4 : decode cX11_text 4 = .ok (.getfield 119, 3) := by decide +kernel
theorem dX11_text_7 : decode cX11_text 7 = .ok (.iconst 4, 1) := by decide +kernel
theorem dX11_text_8 : decode cX11_text 8 = .ok (.if_icmp .lt 5, 3) := by decide +kernel
theorem dX11_text_11 : decode cX11_text 11 = .ok (.iconst (-1), 1) := by decide +kernel
theorem dX11_text_12 : decode cX11_text 12 = .ok (.ireturn, 1) := by decide +kernel
theorem dX11_text_13 : decode cX11_text 13 = .ok (.aload_n 0, 1) := by decide +kernel
theorem dX11_text_14 : decode cX11_text 14 = .ok (.getfield 38, 3) := by decide +kernel
theorem dX11_text_17 : decode cX11_text 17 = .ok (.aload_n 0, 1) := by decide +kernel
theorem dX11_text_18 : decode cX11_text 18 = .ok (.getfield 31, 3) := by decide +kernel
theorem dX11_text_21 : decode cX11_text 21 = .ok (.aload_n 0, 1) := by decide +kernel
theorem dX11_text_22 : decode cX11_text 22 = .ok (.getfield 12, 3) := by decide +kernel
theorem dX11_text_25 : decode cX11_text 25 = .ok (.getfield 119, 3) := by decide +kernel
theorem dX11_text_28 : decode cX11_text 28 = .ok (.aaload, 1) := by decide +kernel
theorem dX11_text_29 : decode cX11_text 29 = .ok (.invokevirtual 121, 3) := by decide +kernel
theorem dX11_text_32 : decode cX11_text 32 = .ok (.istore_n 1, 1) := by decide +kernel
theorem dX11_text_33 : decode cX11_text 33 = .ok (.aload_n 0, 1) := by decide +kernel
theorem dX11_text_34 : decode cX11_text 34 = .ok (.getfield 38, 3) := by decide +kernel
theorem dX11_text_37 : decode cX11_text 37 = .ok (.iconst 0, 1) := by decide +kernel
theorem dX11_text_38 : decode cX11_text 38 = .ok (.putfield 112, 3) := by decide +kernel
theorem dX11_text_41 : decode cX11_text 41 = .ok (.iload_n 1, 1) := by decide +kernel
theorem dX11_text_42 : decode cX11_text 42 = .ok (.ifCond .ne 5, 3) := by decide +kernel
theorem dX11_text_45 : decode cX11_text 45 = .ok (.iconst (-1), 1) := by decide +kernel
theorem dX11_text_46 : decode cX11_text 46 = .ok (.ireturn, 1) := by decide +kernel
theorem dX11_text_47 : decode cX11_text 47 = .ok (.aload_n 0, 1) := by decide +kernel
theorem dX11_text_48 : decode cX11_text 48 = .ok (.getfield 12, 3) := by decide +kernel
theorem dX11_text_51 : decode cX11_text 51 = .ok (.dup, 1) := by decide +kernel
theorem dX11_text_52 : decode cX11_text 52 = .ok (.getfield 119, 3) := by decide +kernel
theorem dX11_text_55 : decode cX11_text 55 = .ok (.iconst 1, 1) := by decide +kernel
theorem dX11_text_56 : decode cX11_text 56 = .ok (.iadd, 1) := by decide +kernel
theorem dX11_text_57 : decode cX11_text 57 = .ok (.putfield 119, 3) := by decide +kernel
theorem dX11_text_60 : decode cX11_text 60 = .ok (.aload_n 0, 1) := by decide +kernel
theorem dX11_text_61 : decode cX11_text 61 = .ok (.getfield 12, 3) := by decide +kernel
theorem dX11_text_64 : decode cX11_text 64 = .ok (.getfield 119, 3) := by decide +kernel
theorem dX11_text_67 : decode cX11_text 67 = .ok (.iconst 1, 1) := by decide +kernel
theorem dX11_text_68 : decode cX11_text 68 = .ok (.isub, 1) := by decide +kernel
theorem dX11_text_69 : decode cX11_text 69 = .ok (.ireturn, 1) := by decide +kernel
theorem dX11_fault_0 : decode cX11_fault 0 = .ok (.iload_n 1, 1) := by decide +kernel
theorem dX11_fault_1 : decode cX11_fault 1 = .ok (.lookupswitch 43 #[(0, 27), (1, 35)], 27) := by decide +kernel
theorem dX11_fault_28 : decode cX11_fault 28 = .ok (.aload_n 0, 1) := by decide +kernel
theorem dX11_fault_29 : decode cX11_fault 29 = .ok (.getfield 38, 3) := by decide +kernel
theorem dX11_fault_32 : decode cX11_fault 32 = .ok (.getfield 125, 3) := by decide +kernel
theorem dX11_fault_35 : decode cX11_fault 35 = .ok (.ireturn, 1) := by decide +kernel
theorem dX11_fault_36 : decode cX11_fault 36 = .ok (.aload_n 0, 1) := by decide +kernel
theorem dX11_fault_37 : decode cX11_fault 37 = .ok (.getfield 38, 3) := by decide +kernel
theorem dX11_fault_40 : decode cX11_fault 40 = .ok (.getfield 128, 3) := by decide +kernel
theorem dX11_fault_43 : decode cX11_fault 43 = .ok (.ireturn, 1) := by decide +kernel
theorem dX11_fault_44 : decode cX11_fault 44 = .ok (.iconst (-1), 1) := by decide +kernel
theorem dX11_fault_45 : decode cX11_fault 45 = .ok (.ireturn, 1) := by decide +kernel
theorem dX11_by_0 : decode cX11_by 0 = .ok (.iload_n 1, 1) := by decide +kernel
theorem dX11_by_1 : decode cX11_by 1 = .ok (.iconst (-1), 1) := by decide +kernel
theorem dX11_by_2 : decode cX11_by 2 = .ok (.if_icmp .eq 13, 3) := by decide +kernel
theorem dX11_by_5 : decode cX11_by 5 = .ok (.aload_n 0, 1) := by decide +kernel
theorem dX11_by_6 : decode cX11_by 6 = .ok (.iload_n 1, 1) := by decide +kernel
theorem dX11_by_7 : decode cX11_by 7 = .ok (.invokevirtual 131, 3) := by decide +kernel
theorem dX11_by_10 : decode cX11_by 10 = .ok (.ifCond .ne 5, 3) := by decide +kernel
theorem dX11_by_13 : decode cX11_by 13 = .ok (.iconst 0, 1) := by decide +kernel
theorem dX11_by_14 : decode cX11_by 14 = .ok (.ireturn, 1) := by decide +kernel
theorem dX11_by_15 : decode cX11_by 15 = .ok (.aload_n 0, 1) := by decide +kernel
theorem dX11_by_16 : decode cX11_by 16 = .ok (.getfield 12, 3) := by decide +kernel
theorem dX11_by_19 : decode cX11_by 19 = .ok (.iload_n 1, 1) := by decide +kernel
theorem dX11_by_20 : decode cX11_by 20 = .ok (.putfield 134, 3) := by decide +kernel
theorem dX11_by_23 : decode cX11_by 23 = .ok (.aload_n 0, 1) := by decide +kernel
theorem dX11_by_24 : decode cX11_by 24 = .ok (.invokevirtual 137, 3) := by decide +kernel
theorem dX11_by_27 : decode cX11_by 27 = .ok (.iconst 1, 1) := by decide +kernel
theorem dX11_by_28 : decode cX11_by 28 = .ok (.ireturn, 1) := by decide +kernel
theorem dX11_hour_0 : decode cX11_hour 0 = .ok (.iconst 1, 1) := by decide +kernel
theorem dX11_hour_1 : decode cX11_hour 1 = .ok (.iload_n 1, 1) := by decide +kernel
theorem dX11_hour_2 : decode cX11_hour 2 = .ok (.bipush 60, 2) := by decide +kernel
theorem dX11_hour_4 : decode cX11_hour 4 = .ok (.invokestatic 86, 3) := by decide +kernel
theorem dX11_hour_7 : decode cX11_hour 7 = .ok (.ifCond .eq 18, 3) := by decide +kernel
theorem dX11_hour_10 : decode cX11_hour 10 = .ok (.aload_n 0, 1) := by decide +kernel
theorem dX11_hour_11 : decode cX11_hour 11 = .ok (.getfield 23, 3) := by decide +kernel
theorem dX11_hour_14 : decode cX11_hour 14 = .ok (.getfield 140, 3) := by decide +kernel
theorem dX11_hour_17 : decode cX11_hour 17 = .ok (.iload_n 1, 1) := by decide +kernel
theorem dX11_hour_18 : decode cX11_hour 18 = .ok (.iadd, 1) := by decide +kernel
theorem dX11_hour_19 : decode cX11_hour 19 = .ok (.sipush 9999, 3) := by decide +kernel
theorem dX11_hour_22 : decode cX11_hour 22 = .ok (.if_icmp .le 5, 3) := by decide +kernel
theorem dX11_hour_25 : decode cX11_hour 25 = .ok (.iconst (-1), 1) := by decide +kernel
theorem dX11_hour_26 : decode cX11_hour 26 = .ok (.ireturn, 1) := by decide +kernel
theorem dX11_hour_27 : decode cX11_hour 27 = .ok (.aload_n 0, 1) := by decide +kernel
theorem dX11_hour_28 : decode cX11_hour 28 = .ok (.iload_n 1, 1) := by decide +kernel
theorem dX11_hour_29 : decode cX11_hour 29 = .ok (.invokevirtual 143, 3) := by decide +kernel
theorem dX11_hour_32 : decode cX11_hour 32 = .ok (.ireturn, 1) := by decide +kernel
theorem dX11_flood_0 : decode cX11_flood 0 = .ok (.aload_n 0, 1) := by decide +kernel
theorem dX11_flood_1 : decode cX11_flood 1 = .ok (.iload_n 1, 1) := by decide +kernel
theorem dX11_flood_2 : decode cX11_flood 2 = .ok (.invokevirtual 102, 3) := by decide +kernel
theorem dX11_flood_5 : decode cX11_flood 5 = .ok (.ifCond .eq 14, 3) := by decide +kernel
theorem dX11_flood_8 : decode cX11_flood 8 = .ok (.iconst 1, 1) := by decide +kernel
theorem dX11_flood_9 : decode cX11_flood 9 = .ok (.iload_n 2, 1) := by decide +kernel
theorem dX11_flood_10 : decode cX11_flood 10 = .ok (.sipush 999, 3) := by decide +kernel
theorem dX11_flood_13 : decode cX11_flood 13 = .ok (.invokestatic 86, 3) := by decide +kernel
theorem dX11_flood_16 : decode cX11_flood 16 = .ok (.ifCond .ne 5, 3) := by decide +kernel
theorem dX11_flood_19 : decode cX11_flood 19 = .ok (.iconst (-1), 1) := by decide +kernel
theorem dX11_flood_20 : decode cX11_flood 20 = .ok (.ireturn, 1) := by decide +kernel
theorem dX11_flood_21 : decode cX11_flood 21 = .ok (.aload_n 0, 1) := by decide +kernel
theorem dX11_flood_22 : decode cX11_flood 22 = .ok (.getfield 12, 3) := by decide +kernel
theorem dX11_flood_25 : decode cX11_flood 25 = .ok (.getfield 147, 3) := by decide +kernel
theorem dX11_flood_28 : decode cX11_flood 28 = .ok (.aload_n 0, 1) := by decide +kernel
theorem dX11_flood_29 : decode cX11_flood 29 = .ok (.getfield 23, 3) := by decide +kernel
theorem dX11_flood_32 : decode cX11_flood 32 = .ok (.invokevirtual 151, 3) := by decide +kernel
theorem dX11_flood_35 : decode cX11_flood 35 = .ok (.aload_n 0, 1) := by decide +kernel
theorem dX11_flood_36 : decode cX11_flood 36 = .ok (.getfield 23, 3) := by decide +kernel
theorem dX11_flood_39 : decode cX11_flood 39 = .ok (.iload_n 1, 1) := by decide +kernel
theorem dX11_flood_40 : decode cX11_flood 40 = .ok (.iload_n 2, 1) := by decide +kernel
theorem dX11_flood_41 : decode cX11_flood 41 = .ok (.invokevirtual 157, 3) := by decide +kernel
theorem dX11_flood_44 : decode cX11_flood 44 = .ok (.aload_n 0, 1) := by decide +kernel
theorem dX11_flood_45 : decode cX11_flood 45 = .ok (.getfield 23, 3) := by decide +kernel
theorem dX11_flood_48 : decode cX11_flood 48 = .ok (.getfield 161, 3) := by decide +kernel
theorem dX11_flood_51 : decode cX11_flood 51 = .ok (.iload_n 1, 1) := by decide +kernel
theorem dX11_flood_52 : decode cX11_flood 52 = .ok (.iaload, 1) := by decide +kernel
theorem dX11_flood_53 : decode cX11_flood 53 = .ok (.ireturn, 1) := by decide +kernel
theorem dX11_raise_0 : decode cX11_raise 0 = .ok (.aload_n 0, 1) := by decide +kernel
theorem dX11_raise_1 : decode cX11_raise 1 = .ok (.iload_n 1, 1) := by decide +kernel
theorem dX11_raise_2 : decode cX11_raise 2 = .ok (.invokevirtual 102, 3) := by decide +kernel
theorem dX11_raise_5 : decode cX11_raise 5 = .ok (.ifCond .eq 26, 3) := by decide +kernel
theorem dX11_raise_8 : decode cX11_raise 8 = .ok (.iconst 0, 1) := by decide +kernel
theorem dX11_raise_9 : decode cX11_raise 9 = .ok (.iload_n 2, 1) := by decide +kernel
theorem dX11_raise_10 : decode cX11_raise 10 = .ok (.bipush 99, 2) := by decide +kernel
theorem dX11_raise_12 : decode cX11_raise 12 = .ok (.invokestatic 86, 3) := by decide +kernel
theorem dX11_raise_15 : decode cX11_raise 15 = .ok (.ifCond .eq 16, 3) := by decide +kernel
theorem dX11_raise_18 : decode cX11_raise 18 = .ok (.aload_n 0, 1) := by decide +kernel
theorem dX11_raise_19 : decode cX11_raise 19 = .ok (.getfield 23, 3) := by decide +kernel
theorem dX11_raise_22 : decode cX11_raise 22 = .ok (.getfield 165, 3) := by decide +kernel
theorem dX11_raise_25 : decode cX11_raise 25 = .ok (.iload_n 1, 1) := by decide +kernel
theorem dX11_raise_26 : decode cX11_raise 26 = .ok (.iaload, 1) := by decide +kernel
theorem dX11_raise_27 : decode cX11_raise 27 = .ok (.iload_n 2, 1) := by decide +kernel
theorem dX11_raise_28 : decode cX11_raise 28 = .ok (.if_icmp .ne 5, 3) := by decide +kernel
theorem dX11_raise_31 : decode cX11_raise 31 = .ok (.iconst 0, 1) := by decide +kernel
theorem dX11_raise_32 : decode cX11_raise 32 = .ok (.ireturn, 1) := by decide +kernel
theorem dX11_raise_33 : decode cX11_raise 33 = .ok (.aload_n 0, 1) := by decide +kernel
theorem dX11_raise_34 : decode cX11_raise 34 = .ok (.getfield 12, 3) := by decide +kernel
theorem dX11_raise_37 : decode cX11_raise 37 = .ok (.getfield 147, 3) := by decide +kernel
theorem dX11_raise_40 : decode cX11_raise 40 = .ok (.aload_n 0, 1) := by decide +kernel
theorem dX11_raise_41 : decode cX11_raise 41 = .ok (.getfield 23, 3) := by decide +kernel
theorem dX11_raise_44 : decode cX11_raise 44 = .ok (.invokevirtual 151, 3) := by decide +kernel
theorem dX11_raise_47 : decode cX11_raise 47 = .ok (.aload_n 0, 1) := by decide +kernel
theorem dX11_raise_48 : decode cX11_raise 48 = .ok (.getfield 23, 3) := by decide +kernel
theorem dX11_raise_51 : decode cX11_raise 51 = .ok (.getfield 165, 3) := by decide +kernel
theorem dX11_raise_54 : decode cX11_raise 54 = .ok (.iload_n 1, 1) := by decide +kernel
theorem dX11_raise_55 : decode cX11_raise 55 = .ok (.iload_n 2, 1) := by decide +kernel
theorem dX11_raise_56 : decode cX11_raise 56 = .ok (.iastore, 1) := by decide +kernel
theorem dX11_raise_57 : decode cX11_raise 57 = .ok (.iconst 1, 1) := by decide +kernel
theorem dX11_raise_58 : decode cX11_raise 58 = .ok (.ireturn, 1) := by decide +kernel
theorem dX11_mend_0 : decode cX11_mend 0 = .ok (.aload_n 0, 1) := by decide +kernel
theorem dX11_mend_1 : decode cX11_mend 1 = .ok (.iload_n 1, 1) := by decide +kernel
theorem dX11_mend_2 : decode cX11_mend 2 = .ok (.invokevirtual 168, 3) := by decide +kernel
theorem dX11_mend_5 : decode cX11_mend 5 = .ok (.ifCond .ne 5, 3) := by decide +kernel
theorem dX11_mend_8 : decode cX11_mend 8 = .ok (.iconst (-1), 1) := by decide +kernel
theorem dX11_mend_9 : decode cX11_mend 9 = .ok (.ireturn, 1) := by decide +kernel
theorem dX11_mend_10 : decode cX11_mend 10 = .ok (.aload_n 0, 1) := by decide +kernel
theorem dX11_mend_11 : decode cX11_mend 11 = .ok (.getfield 12, 3) := by decide +kernel
theorem dX11_mend_14 : decode cX11_mend 14 = .ok (.getfield 147, 3) := by decide +kernel
theorem dX11_mend_17 : decode cX11_mend 17 = .ok (.aload_n 0, 1) := by decide +kernel
theorem dX11_mend_18 : decode cX11_mend 18 = .ok (.getfield 23, 3) := by decide +kernel
theorem dX11_mend_21 : decode cX11_mend 21 = .ok (.invokevirtual 151, 3) := by decide +kernel
theorem dX11_mend_24 : decode cX11_mend 24 = .ok (.aload_n 0, 1) := by decide +kernel
theorem dX11_mend_25 : decode cX11_mend 25 = .ok (.getfield 23, 3) := by decide +kernel
theorem dX11_mend_28 : decode cX11_mend 28 = .ok (.getfield 171, 3) := by decide +kernel
theorem dX11_mend_31 : decode cX11_mend 31 = .ok (.iload_n 1, 1) := by decide +kernel
theorem dX11_mend_32 : decode cX11_mend 32 = .ok (.iaload, 1) := by decide +kernel
theorem dX11_mend_33 : decode cX11_mend 33 = .ok (.istore_n 2, 1) := by decide +kernel
theorem dX11_mend_34 : decode cX11_mend 34 = .ok (.aload_n 0, 1) := by decide +kernel
theorem dX11_mend_35 : decode cX11_mend 35 = .ok (.getfield 23, 3) := by decide +kernel
theorem dX11_mend_38 : decode cX11_mend 38 = .ok (.getfield 171, 3) := by decide +kernel
theorem dX11_mend_41 : decode cX11_mend 41 = .ok (.iload_n 1, 1) := by decide +kernel
theorem dX11_mend_42 : decode cX11_mend 42 = .ok (.iconst 0, 1) := by decide +kernel
theorem dX11_mend_43 : decode cX11_mend 43 = .ok (.iastore, 1) := by decide +kernel
theorem dX11_mend_44 : decode cX11_mend 44 = .ok (.iload_n 2, 1) := by decide +kernel
theorem dX11_mend_45 : decode cX11_mend 45 = .ok (.ireturn, 1) := by decide +kernel
theorem dX11_bind_0 : decode cX11_bind 0 = .ok (.aload_n 0, 1) := by decide +kernel
theorem dX11_bind_1 : decode cX11_bind 1 = .ok (.iload_n 1, 1) := by decide +kernel
theorem dX11_bind_2 : decode cX11_bind 2 = .ok (.invokevirtual 174, 3) := by decide +kernel
theorem dX11_bind_5 : decode cX11_bind 5 = .ok (.ifCond .eq 24, 3) := by decide +kernel
theorem dX11_bind_8 : decode cX11_bind 8 = .ok (.aload_n 0, 1) := by decide +kernel
theorem dX11_bind_9 : decode cX11_bind 9 = .ok (.iload_n 2, 1) := by decide +kernel
theorem dX11_bind_10 : decode cX11_bind 10 = .ok (.invokevirtual 102, 3) := by decide +kernel
theorem dX11_bind_13 : decode cX11_bind 13 = .ok (.ifCond .eq 16, 3) := by decide +kernel
theorem dX11_bind_16 : decode cX11_bind 16 = .ok (.aload_n 0, 1) := by decide +kernel
theorem dX11_bind_17 : decode cX11_bind 17 = .ok (.getfield 23, 3) := by decide +kernel
theorem dX11_bind_20 : decode cX11_bind 20 = .ok (.getfield 177, 3) := by decide +kernel
theorem dX11_bind_23 : decode cX11_bind 23 = .ok (.iload_n 1, 1) := by decide +kernel
theorem dX11_bind_24 : decode cX11_bind 24 = .ok (.iaload, 1) := by decide +kernel
theorem dX11_bind_25 : decode cX11_bind 25 = .ok (.iload_n 2, 1) := by decide +kernel
theorem dX11_bind_26 : decode cX11_bind 26 = .ok (.if_icmp .ne 5, 3) := by decide +kernel
theorem dX11_bind_29 : decode cX11_bind 29 = .ok (.iconst 0, 1) := by decide +kernel
theorem dX11_bind_30 : decode cX11_bind 30 = .ok (.ireturn, 1) := by decide +kernel
theorem dX11_bind_31 : decode cX11_bind 31 = .ok (.aload_n 0, 1) := by decide +kernel
theorem dX11_bind_32 : decode cX11_bind 32 = .ok (.getfield 12, 3) := by decide +kernel
theorem dX11_bind_35 : decode cX11_bind 35 = .ok (.getfield 147, 3) := by decide +kernel
theorem dX11_bind_38 : decode cX11_bind 38 = .ok (.aload_n 0, 1) := by decide +kernel
theorem dX11_bind_39 : decode cX11_bind 39 = .ok (.getfield 23, 3) := by decide +kernel
theorem dX11_bind_42 : decode cX11_bind 42 = .ok (.invokevirtual 151, 3) := by decide +kernel
theorem dX11_bind_45 : decode cX11_bind 45 = .ok (.aload_n 0, 1) := by decide +kernel
theorem dX11_bind_46 : decode cX11_bind 46 = .ok (.getfield 23, 3) := by decide +kernel
theorem dX11_bind_49 : decode cX11_bind 49 = .ok (.getfield 177, 3) := by decide +kernel
theorem dX11_bind_52 : decode cX11_bind 52 = .ok (.iload_n 1, 1) := by decide +kernel
theorem dX11_bind_53 : decode cX11_bind 53 = .ok (.iload_n 2, 1) := by decide +kernel
theorem dX11_bind_54 : decode cX11_bind 54 = .ok (.iastore, 1) := by decide +kernel
theorem dX11_bind_55 : decode cX11_bind 55 = .ok (.iconst 1, 1) := by decide +kernel
theorem dX11_bind_56 : decode cX11_bind 56 = .ok (.ireturn, 1) := by decide +kernel
theorem dX11_played_0 : decode cX11_played 0 = .ok (.aload_n 0, 1) := by decide +kernel
theorem dX11_played_1 : decode cX11_played 1 = .ok (.iload_n 1, 1) := by decide +kernel
theorem dX11_played_2 : decode cX11_played 2 = .ok (.invokevirtual 131, 3) := by decide +kernel
theorem dX11_played_5 : decode cX11_played 5 = .ok (.ifCond .ne 6, 3) := by decide +kernel
theorem dX11_played_8 : decode cX11_played 8 = .ok (.bipush (-2), 2) := by decide +kernel
theorem dX11_played_10 : decode cX11_played 10 = .ok (.ireturn, 1) := by decide +kernel
theorem dX11_played_11 : decode cX11_played 11 = .ok (.aload_n 0, 1) := by decide +kernel
theorem dX11_played_12 : decode cX11_played 12 = .ok (.getfield 31, 3) := by decide +kernel
theorem dX11_played_15 : decode cX11_played 15 = .ok (.iload_n 1, 1) := by decide +kernel
theorem dX11_played_16 : decode cX11_played 16 = .ok (.aaload, 1) := by decide +kernel
theorem dX11_played_17 : decode cX11_played 17 = .ok (.astore_n 2, 1) := by decide +kernel
theorem dX11_played_18 : decode cX11_played 18 = .ok (.iconst 0, 1) := by decide +kernel
theorem dX11_played_19 : decode cX11_played 19 = .ok (.istore_n 3, 1) := by decide +kernel
theorem dX11_played_20 : decode cX11_played 20 = .ok (.iload_n 3, 1) := by decide +kernel
theorem dX11_played_21 : decode cX11_played 21 = .ok (.aload_n 2, 1) := by decide +kernel
theorem dX11_played_22 : decode cX11_played 22 = .ok (.getfield 180, 3) := by decide +kernel
theorem dX11_played_25 : decode cX11_played 25 = .ok (.if_icmp .ge 20, 3) := by decide +kernel
theorem dX11_played_28 : decode cX11_played 28 = .ok (.aload_n 0, 1) := by decide +kernel
theorem dX11_played_29 : decode cX11_played 29 = .ok (.aload_n 2, 1) := by decide +kernel
theorem dX11_played_30 : decode cX11_played 30 = .ok (.iload_n 3, 1) := by decide +kernel
theorem dX11_played_31 : decode cX11_played 31 = .ok (.invokevirtual 183, 3) := by decide +kernel
theorem dX11_played_34 : decode cX11_played 34 = .ok (.ifCond .ne 5, 3) := by decide +kernel
theorem dX11_played_37 : decode cX11_played 37 = .ok (.iload_n 3, 1) := by decide +kernel
theorem dX11_played_38 : decode cX11_played 38 = .ok (.ireturn, 1) := by decide +kernel
theorem dX11_played_39 : decode cX11_played 39 = .ok (.iinc 3 1, 3) := by decide +kernel
theorem dX11_played_42 : decode cX11_played 42 = .ok (.goto (-22), 3) := by decide +kernel
theorem dX11_played_45 : decode cX11_played 45 = .ok (.iconst (-1), 1) := by decide +kernel
theorem dX11_played_46 : decode cX11_played 46 = .ok (.ireturn, 1) := by decide +kernel
theorem dX11_centuries_0 : decode cX11_centuries 0 = .ok (.iconst 0, 1) := by decide +kernel
theorem dX11_centuries_1 : decode cX11_centuries 1 = .ok (.iload_n 1, 1) := by decide +kernel
theorem dX11_centuries_2 : decode cX11_centuries 2 = .ok (.sipush 9999, 3) := by decide +kernel
theorem dX11_centuries_5 : decode cX11_centuries 5 = .ok (.invokestatic 86, 3) := by decide +kernel
theorem dX11_centuries_8 : decode cX11_centuries 8 = .ok (.ifCond .eq 33, 3) := by decide +kernel
theorem dX11_centuries_11 : decode cX11_centuries 11 = .ok (.iconst 1, 1) := by decide +kernel
theorem dX11_centuries_12 : decode cX11_centuries 12 = .ok (.iload_n 2, 1) := by decide +kernel
theorem dX11_centuries_13 : decode cX11_centuries 13 = .ok (.bipush 40, 2) := by decide +kernel
theorem dX11_centuries_15 : decode cX11_centuries 15 = .ok (.invokestatic 86, 3) := by decide +kernel
theorem dX11_centuries_18 : decode cX11_centuries 18 = .ok (.ifCond .eq 23, 3) := by decide +kernel
theorem dX11_centuries_21 : decode cX11_centuries 21 = .ok (.aload_n 0, 1) := by decide +kernel
theorem dX11_centuries_22 : decode cX11_centuries 22 = .ok (.getfield 23, 3) := by decide +kernel
theorem dX11_centuries_25 : decode cX11_centuries 25 = .ok (.getfield 90, 3) := by decide +kernel
theorem dX11_centuries_28 : decode cX11_centuries 28 = .ok (.ifCond .eq 13, 3) := by decide +kernel
theorem dX11_centuries_31 : decode cX11_centuries 31 = .ok (.aload_n 0, 1) := by decide +kernel
theorem dX11_centuries_32 : decode cX11_centuries 32 = .ok (.getfield 23, 3) := by decide +kernel
theorem dX11_centuries_35 : decode cX11_centuries 35 = .ok (.getfield 105, 3) := by decide +kernel
theorem dX11_centuries_38 : decode cX11_centuries 38 = .ok (.ifCond .ne 5, 3) := by decide +kernel
theorem dX11_centuries_41 : decode cX11_centuries 41 = .ok (.iconst (-1), 1) := by decide +kernel
theorem dX11_centuries_42 : decode cX11_centuries 42 = .ok (.ireturn, 1) := by decide +kernel
theorem dX11_centuries_43 : decode cX11_centuries 43 = .ok (.aload_n 0, 1) := by decide +kernel
theorem dX11_centuries_44 : decode cX11_centuries 44 = .ok (.getfield 12, 3) := by decide +kernel
theorem dX11_centuries_47 : decode cX11_centuries 47 = .ok (.getfield 147, 3) := by decide +kernel
theorem dX11_centuries_50 : decode cX11_centuries 50 = .ok (.aload_n 0, 1) := by decide +kernel
theorem dX11_centuries_51 : decode cX11_centuries 51 = .ok (.getfield 23, 3) := by decide +kernel
theorem dX11_centuries_54 : decode cX11_centuries 54 = .ok (.invokevirtual 151, 3) := by decide +kernel
theorem dX11_centuries_57 : decode cX11_centuries 57 = .ok (.aload_n 0, 1) := by decide +kernel
theorem dX11_centuries_58 : decode cX11_centuries 58 = .ok (.getfield 23, 3) := by decide +kernel
theorem dX11_centuries_61 : decode cX11_centuries 61 = .ok (.iload_n 1, 1) := by decide +kernel
theorem dX11_centuries_62 : decode cX11_centuries 62 = .ok (.iconst 2, 1) := by decide +kernel
theorem dX11_centuries_63 : decode cX11_centuries 63 = .ok (.imul, 1) := by decide +kernel
theorem dX11_centuries_64 : decode cX11_centuries 64 = .ok (.bipush 83, 2) := by decide +kernel
theorem dX11_centuries_66 : decode cX11_centuries 66 = .ok (.iadd, 1) := by decide +kernel
theorem dX11_centuries_67 : decode cX11_centuries 67 = .ok (.putfield 187, 3) := by decide +kernel
theorem dX11_centuries_70 : decode cX11_centuries 70 = .ok (.iconst 0, 1) := by decide +kernel
theorem dX11_centuries_71 : decode cX11_centuries 71 = .ok (.istore_n 3, 1) := by decide +kernel
theorem dX11_centuries_72 : decode cX11_centuries 72 = .ok (.iload_n 3, 1) := by decide +kernel
theorem dX11_centuries_73 : decode cX11_centuries 73 = .ok (.iload_n 2, 1) := by decide +kernel
theorem dX11_centuries_74 : decode cX11_centuries 74 = .ok (.if_icmp .ge 45, 3) := by decide +kernel
theorem dX11_centuries_77 : decode cX11_centuries 77 = .ok (.aload_n 0, 1) := by decide +kernel
theorem dX11_centuries_78 : decode cX11_centuries 78 = .ok (.getfield 23, 3) := by decide +kernel
theorem dX11_centuries_81 : decode cX11_centuries 81 = .ok (.getfield 187, 3) := by decide +kernel
theorem dX11_centuries_84 : decode cX11_centuries 84 = .ok (.istore 4, 2) := by decide +kernel
theorem dX11_centuries_86 : decode cX11_centuries 86 = .ok (.aload_n 0, 1) := by decide +kernel
theorem dX11_centuries_87 : decode cX11_centuries 87 = .ok (.getfield 23, 3) := by decide +kernel
theorem dX11_centuries_90 : decode cX11_centuries 90 = .ok (.iload 4, 2) := by decide +kernel
theorem dX11_centuries_92 : decode cX11_centuries 92 = .ok (.sipush 293, 3) := by decide +kernel
theorem dX11_centuries_95 : decode cX11_centuries 95 = .ok (.imul, 1) := by decide +kernel
theorem dX11_centuries_96 : decode cX11_centuries 96 = .ok (.sipush 191, 3) := by decide +kernel
theorem dX11_centuries_99 : decode cX11_centuries 99 = .ok (.iadd, 1) := by decide +kernel
theorem dX11_centuries_100 : decode cX11_centuries 100 = .ok (.sipush 30313, 3) := by decide +kernel
theorem dX11_centuries_103 : decode cX11_centuries 103 = .ok (.irem, 1) := by decide +kernel
theorem dX11_centuries_104 : decode cX11_centuries 104 = .ok (.putfield 187, 3) := by decide +kernel
theorem dX11_centuries_107 : decode cX11_centuries 107 = .ok (.aload_n 0, 1) := by decide +kernel
theorem dX11_centuries_108 : decode cX11_centuries 108 = .ok (.iload 4, 2) := by decide +kernel
theorem dX11_centuries_110 : decode cX11_centuries 110 = .ok (.invokevirtual 190, 3) := by decide +kernel
theorem dX11_centuries_113 : decode cX11_centuries 113 = .ok (.iinc 3 1, 3) := by decide +kernel
theorem dX11_centuries_116 : decode cX11_centuries 116 = .ok (.goto (-44), 3) := by decide +kernel
theorem dX11_centuries_119 : decode cX11_centuries 119 = .ok (.aload_n 0, 1) := by decide +kernel
theorem dX11_centuries_120 : decode cX11_centuries 120 = .ok (.getfield 23, 3) := by decide +kernel
theorem dX11_centuries_123 : decode cX11_centuries 123 = .ok (.getfield 140, 3) := by decide +kernel
theorem dX11_centuries_126 : decode cX11_centuries 126 = .ok (.ireturn, 1) := by decide +kernel
theorem dX11_undo_0 : decode cX11_undo 0 = .ok (.aload_n 0, 1) := by decide +kernel
theorem dX11_undo_1 : decode cX11_undo 1 = .ok (.getfield 12, 3) := by decide +kernel
theorem dX11_undo_4 : decode cX11_undo 4 = .ok (.getfield 147, 3) := by decide +kernel
theorem dX11_undo_7 : decode cX11_undo 7 = .ok (.aload_n 0, 1) := by decide +kernel
theorem dX11_undo_8 : decode cX11_undo 8 = .ok (.getfield 23, 3) := by decide +kernel
theorem dX11_undo_11 : decode cX11_undo 11 = .ok (.invokevirtual 193, 3) := by decide +kernel
theorem dX11_undo_14 : decode cX11_undo 14 = .ok (.ireturn, 1) := by decide +kernel
theorem dX11_ofStep_0 : decode cX11_ofStep 0 = .ok (.aload_n 0, 1) := by decide +kernel
theorem dX11_ofStep_1 : decode cX11_ofStep 1 = .ok (.iload_n 1, 1) := by decide +kernel
theorem dX11_ofStep_2 : decode cX11_ofStep 2 = .ok (.invokevirtual 102, 3) := by decide +kernel
theorem dX11_ofStep_5 : decode cX11_ofStep 5 = .ok (.ifCond .ne 5, 3) := by decide +kernel
theorem dX11_ofStep_8 : decode cX11_ofStep 8 = .ok (.iconst (-1), 1) := by decide +kernel
theorem dX11_ofStep_9 : decode cX11_ofStep 9 = .ok (.ireturn, 1) := by decide +kernel
theorem dX11_ofStep_10 : decode cX11_ofStep 10 = .ok (.iload_n 2, 1) := by decide +kernel
theorem dX11_ofStep_11 : decode cX11_ofStep 11 = .ok (.tableswitch 113 0 6 #[41, 51, 61, 71, 81, 91, 100], 41) := by decide +kernel
theorem dX11_ofStep_52 : decode cX11_ofStep 52 = .ok (.aload_n 0, 1) := by decide +kernel
theorem dX11_ofStep_53 : decode cX11_ofStep 53 = .ok (.getfield 23, 3) := by decide +kernel
theorem dX11_ofStep_56 : decode cX11_ofStep 56 = .ok (.getfield 197, 3) := by decide +kernel
theorem dX11_ofStep_59 : decode cX11_ofStep 59 = .ok (.iload_n 1, 1) := by decide +kernel
theorem dX11_ofStep_60 : decode cX11_ofStep 60 = .ok (.iaload, 1) := by decide +kernel
theorem dX11_ofStep_61 : decode cX11_ofStep 61 = .ok (.ireturn, 1) := by decide +kernel
theorem dX11_ofStep_62 : decode cX11_ofStep 62 = .ok (.aload_n 0, 1) := by decide +kernel
theorem dX11_ofStep_63 : decode cX11_ofStep 63 = .ok (.getfield 23, 3) := by decide +kernel
theorem dX11_ofStep_66 : decode cX11_ofStep 66 = .ok (.getfield 165, 3) := by decide +kernel
theorem dX11_ofStep_69 : decode cX11_ofStep 69 = .ok (.iload_n 1, 1) := by decide +kernel
theorem dX11_ofStep_70 : decode cX11_ofStep 70 = .ok (.iaload, 1) := by decide +kernel
theorem dX11_ofStep_71 : decode cX11_ofStep 71 = .ok (.ireturn, 1) := by decide +kernel
theorem dX11_ofStep_72 : decode cX11_ofStep 72 = .ok (.aload_n 0, 1) := by decide +kernel
theorem dX11_ofStep_73 : decode cX11_ofStep 73 = .ok (.getfield 23, 3) := by decide +kernel
theorem dX11_ofStep_76 : decode cX11_ofStep 76 = .ok (.getfield 161, 3) := by decide +kernel
theorem dX11_ofStep_79 : decode cX11_ofStep 79 = .ok (.iload_n 1, 1) := by decide +kernel
theorem dX11_ofStep_80 : decode cX11_ofStep 80 = .ok (.iaload, 1) := by decide +kernel
theorem dX11_ofStep_81 : decode cX11_ofStep 81 = .ok (.ireturn, 1) := by decide +kernel
theorem dX11_ofStep_82 : decode cX11_ofStep 82 = .ok (.aload_n 0, 1) := by decide +kernel
theorem dX11_ofStep_83 : decode cX11_ofStep 83 = .ok (.getfield 23, 3) := by decide +kernel
theorem dX11_ofStep_86 : decode cX11_ofStep 86 = .ok (.getfield 200, 3) := by decide +kernel
theorem dX11_ofStep_89 : decode cX11_ofStep 89 = .ok (.iload_n 1, 1) := by decide +kernel
theorem dX11_ofStep_90 : decode cX11_ofStep 90 = .ok (.iaload, 1) := by decide +kernel
theorem dX11_ofStep_91 : decode cX11_ofStep 91 = .ok (.ireturn, 1) := by decide +kernel
theorem dX11_ofStep_92 : decode cX11_ofStep 92 = .ok (.aload_n 0, 1) := by decide +kernel
theorem dX11_ofStep_93 : decode cX11_ofStep 93 = .ok (.getfield 23, 3) := by decide +kernel
theorem dX11_ofStep_96 : decode cX11_ofStep 96 = .ok (.getfield 171, 3) := by decide +kernel
theorem dX11_ofStep_99 : decode cX11_ofStep 99 = .ok (.iload_n 1, 1) := by decide +kernel
theorem dX11_ofStep_100 : decode cX11_ofStep 100 = .ok (.iaload, 1) := by decide +kernel
theorem dX11_ofStep_101 : decode cX11_ofStep 101 = .ok (.ireturn, 1) := by decide +kernel
theorem dX11_ofStep_102 : decode cX11_ofStep 102 = .ok (.aload_n 0, 1) := by decide +kernel
theorem dX11_ofStep_103 : decode cX11_ofStep 103 = .ok (.getfield 23, 3) := by decide +kernel
theorem dX11_ofStep_106 : decode cX11_ofStep 106 = .ok (.iload_n 1, 1) := by decide +kernel
theorem dX11_ofStep_107 : decode cX11_ofStep 107 = .ok (.invokevirtual 203, 3) := by decide +kernel
theorem dX11_ofStep_110 : decode cX11_ofStep 110 = .ok (.ireturn, 1) := by decide +kernel
theorem dX11_ofStep_111 : decode cX11_ofStep 111 = .ok (.aload_n 0, 1) := by decide +kernel
theorem dX11_ofStep_112 : decode cX11_ofStep 112 = .ok (.getfield 45, 3) := by decide +kernel
theorem dX11_ofStep_115 : decode cX11_ofStep 115 = .ok (.aload_n 0, 1) := by decide +kernel
theorem dX11_ofStep_116 : decode cX11_ofStep 116 = .ok (.getfield 23, 3) := by decide +kernel
theorem dX11_ofStep_119 : decode cX11_ofStep 119 = .ok (.iload_n 1, 1) := by decide +kernel
theorem dX11_ofStep_120 : decode cX11_ofStep 120 = .ok (.invokevirtual 206, 3) := by decide +kernel
theorem dX11_ofStep_123 : decode cX11_ofStep 123 = .ok (.ireturn, 1) := by decide +kernel
theorem dX11_ofStep_124 : decode cX11_ofStep 124 = .ok (.iconst (-1), 1) := by decide +kernel
theorem dX11_ofStep_125 : decode cX11_ofStep 125 = .ok (.ireturn, 1) := by decide +kernel
theorem dX11_ofShip_0 : decode cX11_ofShip 0 = .ok (.aload_n 0, 1) := by decide +kernel
theorem dX11_ofShip_1 : decode cX11_ofShip 1 = .ok (.iload_n 1, 1) := by decide +kernel
theorem dX11_ofShip_2 : decode cX11_ofShip 2 = .ok (.invokevirtual 174, 3) := by decide +kernel
theorem dX11_ofShip_5 : decode cX11_ofShip 5 = .ok (.ifCond .ne 5, 3) := by decide +kernel
theorem dX11_ofShip_8 : decode cX11_ofShip 8 = .ok (.iconst (-1), 1) := by decide +kernel
theorem dX11_ofShip_9 : decode cX11_ofShip 9 = .ok (.ireturn, 1) := by decide +kernel
theorem dX11_ofShip_10 : decode cX11_ofShip 10 = .ok (.iload_n 2, 1) := by decide +kernel
theorem dX11_ofShip_11 : decode cX11_ofShip 11 = .ok (.tableswitch 69 0 3 #[29, 39, 49, 59], 29) := by decide +kernel
theorem dX11_ofShip_40 : decode cX11_ofShip 40 = .ok (.aload_n 0, 1) := by decide +kernel
theorem dX11_ofShip_41 : decode cX11_ofShip 41 = .ok (.getfield 23, 3) := by decide +kernel
theorem dX11_ofShip_44 : decode cX11_ofShip 44 = .ok (.getfield 210, 3) := by decide +kernel
theorem dX11_ofShip_47 : decode cX11_ofShip 47 = .ok (.iload_n 1, 1) := by decide +kernel
theorem dX11_ofShip_48 : decode cX11_ofShip 48 = .ok (.iaload, 1) := by decide +kernel
theorem dX11_ofShip_49 : decode cX11_ofShip 49 = .ok (.ireturn, 1) := by decide +kernel
theorem dX11_ofShip_50 : decode cX11_ofShip 50 = .ok (.aload_n 0, 1) := by decide +kernel
theorem dX11_ofShip_51 : decode cX11_ofShip 51 = .ok (.getfield 23, 3) := by decide +kernel
theorem dX11_ofShip_54 : decode cX11_ofShip 54 = .ok (.getfield 213, 3) := by decide +kernel
theorem dX11_ofShip_57 : decode cX11_ofShip 57 = .ok (.iload_n 1, 1) := by decide +kernel
theorem dX11_ofShip_58 : decode cX11_ofShip 58 = .ok (.iaload, 1) := by decide +kernel
theorem dX11_ofShip_59 : decode cX11_ofShip 59 = .ok (.ireturn, 1) := by decide +kernel
theorem dX11_ofShip_60 : decode cX11_ofShip 60 = .ok (.aload_n 0, 1) := by decide +kernel
theorem dX11_ofShip_61 : decode cX11_ofShip 61 = .ok (.getfield 23, 3) := by decide +kernel
theorem dX11_ofShip_64 : decode cX11_ofShip 64 = .ok (.getfield 177, 3) := by decide +kernel
theorem dX11_ofShip_67 : decode cX11_ofShip 67 = .ok (.iload_n 1, 1) := by decide +kernel
theorem dX11_ofShip_68 : decode cX11_ofShip 68 = .ok (.iaload, 1) := by decide +kernel
theorem dX11_ofShip_69 : decode cX11_ofShip 69 = .ok (.ireturn, 1) := by decide +kernel
theorem dX11_ofShip_70 : decode cX11_ofShip 70 = .ok (.aload_n 0, 1) := by decide +kernel
theorem dX11_ofShip_71 : decode cX11_ofShip 71 = .ok (.getfield 23, 3) := by decide +kernel
theorem dX11_ofShip_74 : decode cX11_ofShip 74 = .ok (.getfield 216, 3) := by decide +kernel
theorem dX11_ofShip_77 : decode cX11_ofShip 77 = .ok (.iload_n 1, 1) := by decide +kernel
theorem dX11_ofShip_78 : decode cX11_ofShip 78 = .ok (.iaload, 1) := by decide +kernel
theorem dX11_ofShip_79 : decode cX11_ofShip 79 = .ok (.ireturn, 1) := by decide +kernel
theorem dX11_ofShip_80 : decode cX11_ofShip 80 = .ok (.iconst (-1), 1) := by decide +kernel
theorem dX11_ofShip_81 : decode cX11_ofShip 81 = .ok (.ireturn, 1) := by decide +kernel
theorem dX11_is_0 : decode cX11_is 0 = .ok (.iload_n 1, 1) := by decide +kernel
theorem dX11_is_1 : decode cX11_is 1 = .ok (.tableswitch 63 0 3 #[31, 39, 47, 55], 31) := by decide +kernel
theorem dX11_is_32 : decode cX11_is 32 = .ok (.aload_n 0, 1) := by decide +kernel
theorem dX11_is_33 : decode cX11_is 33 = .ok (.getfield 23, 3) := by decide +kernel
theorem dX11_is_36 : decode cX11_is 36 = .ok (.getfield 140, 3) := by decide +kernel
theorem dX11_is_39 : decode cX11_is 39 = .ok (.ireturn, 1) := by decide +kernel
theorem dX11_is_40 : decode cX11_is 40 = .ok (.aload_n 0, 1) := by decide +kernel
theorem dX11_is_41 : decode cX11_is 41 = .ok (.getfield 23, 3) := by decide +kernel
theorem dX11_is_44 : decode cX11_is 44 = .ok (.getfield 219, 3) := by decide +kernel
theorem dX11_is_47 : decode cX11_is 47 = .ok (.ireturn, 1) := by decide +kernel
theorem dX11_is_48 : decode cX11_is 48 = .ok (.aload_n 0, 1) := by decide +kernel
theorem dX11_is_49 : decode cX11_is 49 = .ok (.getfield 23, 3) := by decide +kernel
theorem dX11_is_52 : decode cX11_is 52 = .ok (.getfield 222, 3) := by decide +kernel
theorem dX11_is_55 : decode cX11_is 55 = .ok (.ireturn, 1) := by decide +kernel
theorem dX11_is_56 : decode cX11_is 56 = .ok (.aload_n 0, 1) := by decide +kernel
theorem dX11_is_57 : decode cX11_is 57 = .ok (.getfield 23, 3) := by decide +kernel
theorem dX11_is_60 : decode cX11_is 60 = .ok (.getfield 187, 3) := by decide +kernel
theorem dX11_is_63 : decode cX11_is 63 = .ok (.ireturn, 1) := by decide +kernel
theorem dX11_is_64 : decode cX11_is 64 = .ok (.bipush (-2), 2) := by decide +kernel
theorem dX11_is_66 : decode cX11_is 66 = .ok (.ireturn, 1) := by decide +kernel
theorem dX11_book_0 : decode cX11_book 0 = .ok (.iload_n 1, 1) := by decide +kernel
theorem dX11_book_1 : decode cX11_book 1 = .ok (.iconst (-1), 1) := by decide +kernel
theorem dX11_book_2 : decode cX11_book 2 = .ok (.if_icmp .ne 11, 3) := by decide +kernel
theorem dX11_book_5 : decode cX11_book 5 = .ok (.aload_n 0, 1) := by decide +kernel
theorem dX11_book_6 : decode cX11_book 6 = .ok (.getfield 23, 3) := by decide +kernel
theorem dX11_book_9 : decode cX11_book 9 = .ok (.getfield 225, 3) := by decide +kernel
theorem dX11_book_12 : decode cX11_book 12 = .ok (.ireturn, 1) := by decide +kernel
theorem dX11_book_13 : decode cX11_book 13 = .ok (.iconst 0, 1) := by decide +kernel
theorem dX11_book_14 : decode cX11_book 14 = .ok (.iload_n 1, 1) := by decide +kernel
theorem dX11_book_15 : decode cX11_book 15 = .ok (.aload_n 0, 1) := by decide +kernel
theorem dX11_book_16 : decode cX11_book 16 = .ok (.getfield 23, 3) := by decide +kernel
theorem dX11_book_19 : decode cX11_book 19 = .ok (.getfield 225, 3) := by decide +kernel
theorem dX11_book_22 : decode cX11_book 22 = .ok (.iconst 1, 1) := by decide +kernel
theorem dX11_book_23 : decode cX11_book 23 = .ok (.isub, 1) := by decide +kernel
theorem dX11_book_24 : decode cX11_book 24 = .ok (.invokestatic 86, 3) := by decide +kernel
theorem dX11_book_27 : decode cX11_book 27 = .ok (.ifCond .ne 6, 3) := by decide +kernel
theorem dX11_book_30 : decode cX11_book 30 = .ok (.bipush (-2), 2) := by decide +kernel
theorem dX11_book_32 : decode cX11_book 32 = .ok (.ireturn, 1) := by decide +kernel
theorem dX11_book_33 : decode cX11_book 33 = .ok (.iload_n 2, 1) := by decide +kernel
theorem dX11_book_34 : decode cX11_book 34 = .ok (.tableswitch 68 0 2 #[26, 39, 55], 26) := by decide +kernel
theorem dX11_book_60 : decode cX11_book 60 = .ok (.aload_n 0, 1) := by decide +kernel
theorem dX11_book_61 : decode cX11_book 61 = .ok (.getfield 23, 3) := by decide +kernel
theorem dX11_book_64 : decode cX11_book 64 = .ok (.getfield 228, 3) := by decide +kernel
theorem dX11_book_67 : decode cX11_book 67 = .ok (.iload_n 1, 1) := by decide +kernel
theorem dX11_book_68 : decode cX11_book 68 = .ok (.iaload, 1) := by decide +kernel
theorem dX11_book_69 : decode cX11_book 69 = .ok (.bipush 100, 2) := by decide +kernel
theorem dX11_book_71 : decode cX11_book 71 = .ok (.idiv, 1) := by decide +kernel
theorem dX11_book_72 : decode cX11_book 72 = .ok (.ireturn, 1) := by decide +kernel
theorem dX11_book_73 : decode cX11_book 73 = .ok (.aload_n 0, 1) := by decide +kernel
theorem dX11_book_74 : decode cX11_book 74 = .ok (.getfield 23, 3) := by decide +kernel
theorem dX11_book_77 : decode cX11_book 77 = .ok (.getfield 228, 3) := by decide +kernel
theorem dX11_book_80 : decode cX11_book 80 = .ok (.iload_n 1, 1) := by decide +kernel
theorem dX11_book_81 : decode cX11_book 81 = .ok (.iaload, 1) := by decide +kernel
theorem dX11_book_82 : decode cX11_book 82 = .ok (.bipush 10, 2) := by decide +kernel
theorem dX11_book_84 : decode cX11_book 84 = .ok (.idiv, 1) := by decide +kernel
theorem dX11_book_85 : decode cX11_book 85 = .ok (.bipush 10, 2) := by decide +kernel
theorem dX11_book_87 : decode cX11_book 87 = .ok (.irem, 1) := by decide +kernel
theorem dX11_book_88 : decode cX11_book 88 = .ok (.ireturn, 1) := by decide +kernel
theorem dX11_book_89 : decode cX11_book 89 = .ok (.aload_n 0, 1) := by decide +kernel
theorem dX11_book_90 : decode cX11_book 90 = .ok (.getfield 23, 3) := by decide +kernel
theorem dX11_book_93 : decode cX11_book 93 = .ok (.getfield 228, 3) := by decide +kernel
theorem dX11_book_96 : decode cX11_book 96 = .ok (.iload_n 1, 1) := by decide +kernel
theorem dX11_book_97 : decode cX11_book 97 = .ok (.iaload, 1) := by decide +kernel
theorem dX11_book_98 : decode cX11_book 98 = .ok (.bipush 10, 2) := by decide +kernel
theorem dX11_book_100 : decode cX11_book 100 = .ok (.irem, 1) := by decide +kernel
theorem dX11_book_101 : decode cX11_book 101 = .ok (.ireturn, 1) := by decide +kernel
theorem dX11_book_102 : decode cX11_book 102 = .ok (.bipush (-2), 2) := by decide +kernel
theorem dX11_book_104 : decode cX11_book 104 = .ok (.ireturn, 1) := by decide +kernel
theorem dX11_foretoldShip_0 : decode cX11_foretoldShip 0 = .ok (.iconst 1, 1) := by decide +kernel
theorem dX11_foretoldShip_1 : decode cX11_foretoldShip 1 = .ok (.iload_n 1, 1) := by decide +kernel
theorem dX11_foretoldShip_2 : decode cX11_foretoldShip 2 = .ok (.bipush 60, 2) := by decide +kernel
theorem dX11_foretoldShip_4 : decode cX11_foretoldShip 4 = .ok (.invokestatic 86, 3) := by decide +kernel
theorem dX11_foretoldShip_7 : decode cX11_foretoldShip 7 = .ok (.ifCond .eq 20, 3) := by decide +kernel
theorem dX11_foretoldShip_10 : decode cX11_foretoldShip 10 = .ok (.aload_n 0, 1) := by decide +kernel
theorem dX11_foretoldShip_11 : decode cX11_foretoldShip 11 = .ok (.iload_n 2, 1) := by decide +kernel
theorem dX11_foretoldShip_12 : decode cX11_foretoldShip 12 = .ok (.invokevirtual 174, 3) := by decide +kernel
theorem dX11_foretoldShip_15 : decode cX11_foretoldShip 15 = .ok (.ifCond .eq 12, 3) := by decide +kernel
theorem dX11_foretoldShip_18 : decode cX11_foretoldShip 18 = .ok (.iconst 0, 1) := by decide +kernel
theorem dX11_foretoldShip_19 : decode cX11_foretoldShip 19 = .ok (.iload_n 3, 1) := by decide +kernel
theorem dX11_foretoldShip_20 : decode cX11_foretoldShip 20 = .ok (.iconst 1, 1) := by decide +kernel
theorem dX11_foretoldShip_21 : decode cX11_foretoldShip 21 = .ok (.invokestatic 86, 3) := by decide +kernel
theorem dX11_foretoldShip_24 : decode cX11_foretoldShip 24 = .ok (.ifCond .ne 5, 3) := by decide +kernel
theorem dX11_foretoldShip_27 : decode cX11_foretoldShip 27 = .ok (.iconst (-1), 1) := by decide +kernel
theorem dX11_foretoldShip_28 : decode cX11_foretoldShip 28 = .ok (.ireturn, 1) := by decide +kernel
theorem dX11_foretoldShip_29 : decode cX11_foretoldShip 29 = .ok (.aload_n 0, 1) := by decide +kernel
theorem dX11_foretoldShip_30 : decode cX11_foretoldShip 30 = .ok (.iload_n 1, 1) := by decide +kernel
theorem dX11_foretoldShip_31 : decode cX11_foretoldShip 31 = .ok (.invokevirtual 231, 3) := by decide +kernel
theorem dX11_foretoldShip_34 : decode cX11_foretoldShip 34 = .ok (.iload_n 3, 1) := by decide +kernel
theorem dX11_foretoldShip_35 : decode cX11_foretoldShip 35 = .ok (.ifCond .ne 15, 3) := by decide +kernel
theorem dX11_foretoldShip_38 : decode cX11_foretoldShip 38 = .ok (.aload_n 0, 1) := by decide +kernel
theorem dX11_foretoldShip_39 : decode cX11_foretoldShip 39 = .ok (.getfield 82, 3) := by decide +kernel
theorem dX11_foretoldShip_42 : decode cX11_foretoldShip 42 = .ok (.getfield 213, 3) := by decide +kernel
theorem dX11_foretoldShip_45 : decode cX11_foretoldShip 45 = .ok (.iload_n 2, 1) := by decide +kernel
theorem dX11_foretoldShip_46 : decode cX11_foretoldShip 46 = .ok (.iaload, 1) := by decide +kernel
theorem dX11_foretoldShip_47 : decode cX11_foretoldShip 47 = .ok (.goto 12, 3) := by decide +kernel
theorem dX11_foretoldShip_50 : decode cX11_foretoldShip 50 = .ok (.aload_n 0, 1) := by decide +kernel
theorem dX11_foretoldShip_51 : decode cX11_foretoldShip 51 = .ok (.getfield 82, 3) := by decide +kernel
theorem dX11_foretoldShip_54 : decode cX11_foretoldShip 54 = .ok (.getfield 216, 3) := by decide +kernel
theorem dX11_foretoldShip_57 : decode cX11_foretoldShip 57 = .ok (.iload_n 2, 1) := by decide +kernel
theorem dX11_foretoldShip_58 : decode cX11_foretoldShip 58 = .ok (.iaload, 1) := by decide +kernel
theorem dX11_foretoldShip_59 : decode cX11_foretoldShip 59 = .ok (.ireturn, 1) := by decide +kernel
theorem dX11_foretoldStep_0 : decode cX11_foretoldStep 0 = .ok (.iconst 1, 1) := by decide +kernel
theorem dX11_foretoldStep_1 : decode cX11_foretoldStep 1 = .ok (.iload_n 1, 1) := by decide +kernel
theorem dX11_foretoldStep_2 : decode cX11_foretoldStep 2 = .ok (.bipush 60, 2) := by decide +kernel
theorem dX11_foretoldStep_4 : decode cX11_foretoldStep 4 = .ok (.invokestatic 86, 3) := by decide +kernel
theorem dX11_foretoldStep_7 : decode cX11_foretoldStep 7 = .ok (.ifCond .eq 20, 3) := by decide +kernel
theorem dX11_foretoldStep_10 : decode cX11_foretoldStep 10 = .ok (.aload_n 0, 1) := by decide +kernel
theorem dX11_foretoldStep_11 : decode cX11_foretoldStep 11 = .ok (.iload_n 2, 1) := by decide +kernel
theorem dX11_foretoldStep_12 : decode cX11_foretoldStep 12 = .ok (.invokevirtual 102, 3) := by decide +kernel
theorem dX11_foretoldStep_15 : decode cX11_foretoldStep 15 = .ok (.ifCond .eq 12, 3) := by decide +kernel
theorem dX11_foretoldStep_18 : decode cX11_foretoldStep 18 = .ok (.iconst 0, 1) := by decide +kernel
theorem dX11_foretoldStep_19 : decode cX11_foretoldStep 19 = .ok (.iload_n 3, 1) := by decide +kernel
theorem dX11_foretoldStep_20 : decode cX11_foretoldStep 20 = .ok (.iconst 1, 1) := by decide +kernel
theorem dX11_foretoldStep_21 : decode cX11_foretoldStep 21 = .ok (.invokestatic 86, 3) := by decide +kernel
theorem dX11_foretoldStep_24 : decode cX11_foretoldStep 24 = .ok (.ifCond .ne 5, 3) := by decide +kernel
theorem dX11_foretoldStep_27 : decode cX11_foretoldStep 27 = .ok (.iconst (-1), 1) := by decide +kernel
theorem dX11_foretoldStep_28 : decode cX11_foretoldStep 28 = .ok (.ireturn, 1) := by decide +kernel
theorem dX11_foretoldStep_29 : decode cX11_foretoldStep 29 = .ok (.aload_n 0, 1) := by decide +kernel
theorem dX11_foretoldStep_30 : decode cX11_foretoldStep 30 = .ok (.iload_n 1, 1) := by decide +kernel
theorem dX11_foretoldStep_31 : decode cX11_foretoldStep 31 = .ok (.invokevirtual 231, 3) := by decide +kernel
theorem dX11_foretoldStep_34 : decode cX11_foretoldStep 34 = .ok (.iload_n 3, 1) := by decide +kernel
theorem dX11_foretoldStep_35 : decode cX11_foretoldStep 35 = .ok (.ifCond .ne 15, 3) := by decide +kernel
theorem dX11_foretoldStep_38 : decode cX11_foretoldStep 38 = .ok (.aload_n 0, 1) := by decide +kernel
theorem dX11_foretoldStep_39 : decode cX11_foretoldStep 39 = .ok (.getfield 82, 3) := by decide +kernel
theorem dX11_foretoldStep_42 : decode cX11_foretoldStep 42 = .ok (.getfield 161, 3) := by decide +kernel
theorem dX11_foretoldStep_45 : decode cX11_foretoldStep 45 = .ok (.iload_n 2, 1) := by decide +kernel
theorem dX11_foretoldStep_46 : decode cX11_foretoldStep 46 = .ok (.iaload, 1) := by decide +kernel
theorem dX11_foretoldStep_47 : decode cX11_foretoldStep 47 = .ok (.goto 12, 3) := by decide +kernel
theorem dX11_foretoldStep_50 : decode cX11_foretoldStep 50 = .ok (.aload_n 0, 1) := by decide +kernel
theorem dX11_foretoldStep_51 : decode cX11_foretoldStep 51 = .ok (.getfield 82, 3) := by decide +kernel
theorem dX11_foretoldStep_54 : decode cX11_foretoldStep 54 = .ok (.getfield 200, 3) := by decide +kernel
theorem dX11_foretoldStep_57 : decode cX11_foretoldStep 57 = .ok (.iload_n 2, 1) := by decide +kernel
theorem dX11_foretoldStep_58 : decode cX11_foretoldStep 58 = .ok (.iaload, 1) := by decide +kernel
theorem dX11_foretoldStep_59 : decode cX11_foretoldStep 59 = .ok (.ireturn, 1) := by decide +kernel
theorem dX11_comes_0 : decode cX11_comes 0 = .ok (.aload_n 0, 1) := by decide +kernel
theorem dX11_comes_1 : decode cX11_comes 1 = .ok (.iload_n 1, 1) := by decide +kernel
theorem dX11_comes_2 : decode cX11_comes 2 = .ok (.invokevirtual 174, 3) := by decide +kernel
theorem dX11_comes_5 : decode cX11_comes 5 = .ok (.ifCond .ne 5, 3) := by decide +kernel
theorem dX11_comes_8 : decode cX11_comes 8 = .ok (.iconst (-1), 1) := by decide +kernel
theorem dX11_comes_9 : decode cX11_comes 9 = .ok (.ireturn, 1) := by decide +kernel
theorem dX11_comes_10 : decode cX11_comes 10 = .ok (.aload_n 0, 1) := by decide +kernel
theorem dX11_comes_11 : decode cX11_comes 11 = .ok (.iconst 0, 1) := by decide +kernel
theorem dX11_comes_12 : decode cX11_comes 12 = .ok (.invokevirtual 231, 3) := by decide +kernel
theorem dX11_comes_15 : decode cX11_comes 15 = .ok (.iconst 0, 1) := by decide +kernel
theorem dX11_comes_16 : decode cX11_comes 16 = .ok (.istore_n 2, 1) := by decide +kernel
theorem dX11_comes_17 : decode cX11_comes 17 = .ok (.iload_n 2, 1) := by decide +kernel
theorem dX11_comes_18 : decode cX11_comes 18 = .ok (.bipush 60, 2) := by decide +kernel
theorem dX11_comes_20 : decode cX11_comes 20 = .ok (.if_icmp .gt 44, 3) := by decide +kernel
theorem dX11_comes_23 : decode cX11_comes 23 = .ok (.aload_n 0, 1) := by decide +kernel
theorem dX11_comes_24 : decode cX11_comes 24 = .ok (.getfield 82, 3) := by decide +kernel
theorem dX11_comes_27 : decode cX11_comes 27 = .ok (.getfield 213, 3) := by decide +kernel
theorem dX11_comes_30 : decode cX11_comes 30 = .ok (.iload_n 1, 1) := by decide +kernel
theorem dX11_comes_31 : decode cX11_comes 31 = .ok (.iaload, 1) := by decide +kernel
theorem dX11_comes_32 : decode cX11_comes 32 = .ok (.aload_n 0, 1) := by decide +kernel
theorem dX11_comes_33 : decode cX11_comes 33 = .ok (.getfield 82, 3) := by decide +kernel
theorem dX11_comes_36 : decode cX11_comes 36 = .ok (.getfield 177, 3) := by decide +kernel
theorem dX11_comes_39 : decode cX11_comes 39 = .ok (.iload_n 1, 1) := by decide +kernel
theorem dX11_comes_40 : decode cX11_comes 40 = .ok (.iaload, 1) := by decide +kernel
theorem dX11_comes_41 : decode cX11_comes 41 = .ok (.if_icmp .ne 5, 3) := by decide +kernel
theorem dX11_comes_44 : decode cX11_comes 44 = .ok (.iload_n 2, 1) := by decide +kernel
theorem dX11_comes_45 : decode cX11_comes 45 = .ok (.ireturn, 1) := by decide +kernel
theorem dX11_comes_46 : decode cX11_comes 46 = .ok (.aload_n 0, 1) := by decide +kernel
theorem dX11_comes_47 : decode cX11_comes 47 = .ok (.getfield 54, 3) := by decide +kernel
theorem dX11_comes_50 : decode cX11_comes 50 = .ok (.aload_n 0, 1) := by decide +kernel
theorem dX11_comes_51 : decode cX11_comes 51 = .ok (.getfield 82, 3) := by decide +kernel
theorem dX11_comes_54 : decode cX11_comes 54 = .ok (.invokevirtual 234, 3) := by decide +kernel
theorem dX11_comes_57 : decode cX11_comes 57 = .ok (.pop, 1) := by decide +kernel
theorem dX11_comes_58 : decode cX11_comes 58 = .ok (.iinc 2 1, 3) := by decide +kernel
theorem dX11_comes_61 : decode cX11_comes 61 = .ok (.goto (-44), 3) := by decide +kernel
theorem dX11_comes_64 : decode cX11_comes 64 = .ok (.iconst (-1), 1) := by decide +kernel
theorem dX11_comes_65 : decode cX11_comes 65 = .ok (.ireturn, 1) := by decide +kernel
theorem dX11_voyage_0 : decode cX11_voyage 0 = .ok (.iload_n 1, 1) := by decide +kernel
theorem dX11_voyage_1 : decode cX11_voyage 1 = .ok (.invokestatic 98, 3) := by decide +kernel
theorem dX11_voyage_4 : decode cX11_voyage 4 = .ok (.ifCond .eq 35, 3) := by decide +kernel
theorem dX11_voyage_7 : decode cX11_voyage 7 = .ok (.aload_n 0, 1) := by decide +kernel
theorem dX11_voyage_8 : decode cX11_voyage 8 = .ok (.iload_n 2, 1) := by decide +kernel
theorem dX11_voyage_9 : decode cX11_voyage 9 = .ok (.invokevirtual 102, 3) := by decide +kernel
theorem dX11_voyage_12 : decode cX11_voyage 12 = .ok (.ifCond .eq 27, 3) := by decide +kernel
theorem dX11_voyage_15 : decode cX11_voyage 15 = .ok (.aload_n 0, 1) := by decide +kernel
theorem dX11_voyage_16 : decode cX11_voyage 16 = .ok (.iload_n 3, 1) := by decide +kernel
theorem dX11_voyage_17 : decode cX11_voyage 17 = .ok (.invokevirtual 102, 3) := by decide +kernel
theorem dX11_voyage_20 : decode cX11_voyage 20 = .ok (.ifCond .eq 19, 3) := by decide +kernel
theorem dX11_voyage_23 : decode cX11_voyage 23 = .ok (.iload_n 2, 1) := by decide +kernel
theorem dX11_voyage_24 : decode cX11_voyage 24 = .ok (.iload_n 3, 1) := by decide +kernel
theorem dX11_voyage_25 : decode cX11_voyage 25 = .ok (.if_icmp .ge 14, 3) := by decide +kernel
theorem dX11_voyage_28 : decode cX11_voyage 28 = .ok (.iconst 1, 1) := by decide +kernel
theorem dX11_voyage_29 : decode cX11_voyage 29 = .ok (.iload 4, 2) := by decide +kernel
theorem dX11_voyage_31 : decode cX11_voyage 31 = .ok (.bipush 48, 2) := by decide +kernel
theorem dX11_voyage_33 : decode cX11_voyage 33 = .ok (.invokestatic 86, 3) := by decide +kernel
theorem dX11_voyage_36 : decode cX11_voyage 36 = .ok (.ifCond .ne 6, 3) := by decide +kernel
theorem dX11_voyage_39 : decode cX11_voyage 39 = .ok (.bipush (-100), 2) := by decide +kernel
theorem dX11_voyage_41 : decode cX11_voyage 41 = .ok (.ireturn, 1) := by decide +kernel
theorem dX11_voyage_42 : decode cX11_voyage 42 = .ok (.iload_n 3, 1) := by decide +kernel
theorem dX11_voyage_43 : decode cX11_voyage 43 = .ok (.iload_n 2, 1) := by decide +kernel
theorem dX11_voyage_44 : decode cX11_voyage 44 = .ok (.isub, 1) := by decide +kernel
theorem dX11_voyage_45 : decode cX11_voyage 45 = .ok (.istore 6, 2) := by decide +kernel
theorem dX11_voyage_47 : decode cX11_voyage 47 = .ok (.iload 4, 2) := by decide +kernel
theorem dX11_voyage_49 : decode cX11_voyage 49 = .ok (.iload 6, 2) := by decide +kernel
theorem dX11_voyage_51 : decode cX11_voyage 51 = .ok (.if_icmp .lt 17, 3) := by decide +kernel
theorem dX11_voyage_54 : decode cX11_voyage 54 = .ok (.bipush (-2), 2) := by decide +kernel
theorem dX11_voyage_56 : decode cX11_voyage 56 = .ok (.iload 5, 2) := by decide +kernel
theorem dX11_voyage_58 : decode cX11_voyage 58 = .ok (.iload 6, 2) := by decide +kernel
theorem dX11_voyage_60 : decode cX11_voyage 60 = .ok (.iconst 1, 1) := by decide +kernel
theorem dX11_voyage_61 : decode cX11_voyage 61 = .ok (.isub, 1) := by decide +kernel
theorem dX11_voyage_62 : decode cX11_voyage 62 = .ok (.invokestatic 86, 3) := by decide +kernel
theorem dX11_voyage_65 : decode cX11_voyage 65 = .ok (.ifCond .ne 6, 3) := by decide +kernel
theorem dX11_voyage_68 : decode cX11_voyage 68 = .ok (.bipush (-100), 2) := by decide +kernel
theorem dX11_voyage_70 : decode cX11_voyage 70 = .ok (.ireturn, 1) := by decide +kernel
theorem dX11_voyage_71 : decode cX11_voyage 71 = .ok (.aload_n 0, 1) := by decide +kernel
theorem dX11_voyage_72 : decode cX11_voyage 72 = .ok (.iconst 0, 1) := by decide +kernel
theorem dX11_voyage_73 : decode cX11_voyage 73 = .ok (.invokevirtual 231, 3) := by decide +kernel
theorem dX11_voyage_76 : decode cX11_voyage 76 = .ok (.aload_n 0, 1) := by decide +kernel
theorem dX11_voyage_77 : decode cX11_voyage 77 = .ok (.getfield 61, 3) := by decide +kernel
theorem dX11_voyage_80 : decode cX11_voyage 80 = .ok (.aload_n 0, 1) := by decide +kernel
theorem dX11_voyage_81 : decode cX11_voyage 81 = .ok (.getfield 82, 3) := by decide +kernel
theorem dX11_voyage_84 : decode cX11_voyage 84 = .ok (.iload_n 1, 1) := by decide +kernel
theorem dX11_voyage_85 : decode cX11_voyage 85 = .ok (.iload_n 2, 1) := by decide +kernel
theorem dX11_voyage_86 : decode cX11_voyage 86 = .ok (.iload 6, 2) := by decide +kernel
theorem dX11_voyage_88 : decode cX11_voyage 88 = .ok (.iload 4, 2) := by decide +kernel
theorem dX11_voyage_90 : decode cX11_voyage 90 = .ok (.invokevirtual 237, 3) := by decide +kernel
theorem dX11_voyage_93 : decode cX11_voyage 93 = .ok (.iload 5, 2) := by decide +kernel
theorem dX11_voyage_95 : decode cX11_voyage 95 = .ok (.bipush (-2), 2) := by decide +kernel
theorem dX11_voyage_97 : decode cX11_voyage 97 = .ok (.if_icmp .ne 15, 3) := by decide +kernel
theorem dX11_voyage_100 : decode cX11_voyage 100 = .ok (.aload_n 0, 1) := by decide +kernel
theorem dX11_voyage_101 : decode cX11_voyage 101 = .ok (.getfield 61, 3) := by decide +kernel
theorem dX11_voyage_104 : decode cX11_voyage 104 = .ok (.getfield 241, 3) := by decide +kernel
theorem dX11_voyage_107 : decode cX11_voyage 107 = .ok (.iconst 0, 1) := by decide +kernel
theorem dX11_voyage_108 : decode cX11_voyage 108 = .ok (.aaload, 1) := by decide +kernel
theorem dX11_voyage_109 : decode cX11_voyage 109 = .ok (.iconst 0, 1) := by decide +kernel
theorem dX11_voyage_110 : decode cX11_voyage 110 = .ok (.iaload, 1) := by decide +kernel
theorem dX11_voyage_111 : decode cX11_voyage 111 = .ok (.ireturn, 1) := by decide +kernel
theorem dX11_voyage_112 : decode cX11_voyage 112 = .ok (.iload 5, 2) := by decide +kernel
theorem dX11_voyage_114 : decode cX11_voyage 114 = .ok (.iconst (-1), 1) := by decide +kernel
theorem dX11_voyage_115 : decode cX11_voyage 115 = .ok (.if_icmp .ne 17, 3) := by decide +kernel
theorem dX11_voyage_118 : decode cX11_voyage 118 = .ok (.aload_n 0, 1) := by decide +kernel
theorem dX11_voyage_119 : decode cX11_voyage 119 = .ok (.getfield 61, 3) := by decide +kernel
theorem dX11_voyage_122 : decode cX11_voyage 122 = .ok (.getfield 245, 3) := by decide +kernel
theorem dX11_voyage_125 : decode cX11_voyage 125 = .ok (.iconst 0, 1) := by decide +kernel
theorem dX11_voyage_126 : decode cX11_voyage 126 = .ok (.aaload, 1) := by decide +kernel
theorem dX11_voyage_127 : decode cX11_voyage 127 = .ok (.iconst 0, 1) := by decide +kernel
theorem dX11_voyage_128 : decode cX11_voyage 128 = .ok (.iaload, 1) := by decide +kernel
theorem dX11_voyage_129 : decode cX11_voyage 129 = .ok (.goto 12, 3) := by decide +kernel
theorem dX11_voyage_132 : decode cX11_voyage 132 = .ok (.aload_n 0, 1) := by decide +kernel
theorem dX11_voyage_133 : decode cX11_voyage 133 = .ok (.getfield 61, 3) := by decide +kernel
theorem dX11_voyage_136 : decode cX11_voyage 136 = .ok (.iload 5, 2) := by decide +kernel
theorem dX11_voyage_138 : decode cX11_voyage 138 = .ok (.invokevirtual 248, 3) := by decide +kernel
theorem dX11_voyage_141 : decode cX11_voyage 141 = .ok (.ireturn, 1) := by decide +kernel
theorem dX11_hauling_0 : decode cX11_hauling 0 = .ok (.aload_n 0, 1) := by decide +kernel
theorem dX11_hauling_1 : decode cX11_hauling 1 = .ok (.iload_n 1, 1) := by decide +kernel
theorem dX11_hauling_2 : decode cX11_hauling 2 = .ok (.invokevirtual 168, 3) := by decide +kernel
theorem dX11_hauling_5 : decode cX11_hauling 5 = .ok (.ifCond .eq 29, 3) := by decide +kernel
theorem dX11_hauling_8 : decode cX11_hauling 8 = .ok (.aload_n 0, 1) := by decide +kernel
theorem dX11_hauling_9 : decode cX11_hauling 9 = .ok (.iload_n 2, 1) := by decide +kernel
theorem dX11_hauling_10 : decode cX11_hauling 10 = .ok (.invokevirtual 251, 3) := by decide +kernel
theorem dX11_hauling_13 : decode cX11_hauling 13 = .ok (.ifCond .eq 21, 3) := by decide +kernel
theorem dX11_hauling_16 : decode cX11_hauling 16 = .ok (.aload_n 0, 1) := by decide +kernel
theorem dX11_hauling_17 : decode cX11_hauling 17 = .ok (.iload_n 3, 1) := by decide +kernel
theorem dX11_hauling_18 : decode cX11_hauling 18 = .ok (.invokevirtual 251, 3) := by decide +kernel
theorem dX11_hauling_21 : decode cX11_hauling 21 = .ok (.ifCond .eq 13, 3) := by decide +kernel
theorem dX11_hauling_24 : decode cX11_hauling 24 = .ok (.iload_n 2, 1) := by decide +kernel
theorem dX11_hauling_25 : decode cX11_hauling 25 = .ok (.iload_n 3, 1) := by decide +kernel
theorem dX11_hauling_26 : decode cX11_hauling 26 = .ok (.iand, 1) := by decide +kernel
theorem dX11_hauling_27 : decode cX11_hauling 27 = .ok (.ifCond .ne 7, 3) := by decide +kernel
theorem dX11_hauling_30 : decode cX11_hauling 30 = .ok (.iload_n 2, 1) := by decide +kernel
theorem dX11_hauling_31 : decode cX11_hauling 31 = .ok (.ifCond .ne 6, 3) := by decide +kernel
theorem dX11_hauling_34 : decode cX11_hauling 34 = .ok (.bipush (-2), 2) := by decide +kernel
theorem dX11_hauling_36 : decode cX11_hauling 36 = .ok (.ireturn, 1) := by decide +kernel
theorem dX11_hauling_37 : decode cX11_hauling 37 = .ok (.iload_n 2, 1) := by decide +kernel
theorem dX11_hauling_38 : decode cX11_hauling 38 = .ok (.invokestatic 254, 3) := by decide +kernel
theorem dX11_hauling_41 : decode cX11_hauling 41 = .ok (.iconst 4, 1) := by decide +kernel
theorem dX11_hauling_42 : decode cX11_hauling 42 = .ok (.if_icmp .gt 11, 3) := by decide +kernel
theorem dX11_hauling_45 : decode cX11_hauling 45 = .ok (.iload_n 3, 1) := by decide +kernel
theorem dX11_hauling_46 : decode cX11_hauling 46 = .ok (.invokestatic 254, 3) := by decide +kernel
theorem dX11_hauling_49 : decode cX11_hauling 49 = .ok (.iconst 4, 1) := by decide +kernel
theorem dX11_hauling_50 : decode cX11_hauling 50 = .ok (.if_icmp .le 6, 3) := by decide +kernel
theorem dX11_hauling_53 : decode cX11_hauling 53 = .ok (.bipush (-2), 2) := by decide +kernel
theorem dX11_hauling_55 : decode cX11_hauling 55 = .ok (.ireturn, 1) := by decide +kernel
theorem dX11_hauling_56 : decode cX11_hauling 56 = .ok (.iload 4, 2) := by decide +kernel
theorem dX11_hauling_58 : decode cX11_hauling 58 = .ok (.iconst (-1), 1) := by decide +kernel
theorem dX11_hauling_59 : decode cX11_hauling 59 = .ok (.if_icmp .eq 26, 3) := by decide +kernel
theorem dX11_hauling_62 : decode cX11_hauling 62 = .ok (.aload_n 0, 1) := by decide +kernel
theorem dX11_hauling_63 : decode cX11_hauling 63 = .ok (.iload 4, 2) := by decide +kernel
theorem dX11_hauling_65 : decode cX11_hauling 65 = .ok (.invokevirtual 174, 3) := by decide +kernel
theorem dX11_hauling_68 : decode cX11_hauling 68 = .ok (.ifCond .eq 14, 3) := by decide +kernel
theorem dX11_hauling_71 : decode cX11_hauling 71 = .ok (.iload_n 2, 1) := by decide +kernel
theorem dX11_hauling_72 : decode cX11_hauling 72 = .ok (.iload_n 3, 1) := by decide +kernel
theorem dX11_hauling_73 : decode cX11_hauling 73 = .ok (.ior, 1) := by decide +kernel
theorem dX11_hauling_74 : decode cX11_hauling 74 = .ok (.iconst 1, 1) := by decide +kernel
theorem dX11_hauling_75 : decode cX11_hauling 75 = .ok (.iload 4, 2) := by decide +kernel
theorem dX11_hauling_77 : decode cX11_hauling 77 = .ok (.ishl, 1) := by decide +kernel
theorem dX11_hauling_78 : decode cX11_hauling 78 = .ok (.iand, 1) := by decide +kernel
theorem dX11_hauling_79 : decode cX11_hauling 79 = .ok (.ifCond .ne 6, 3) := by decide +kernel
theorem dX11_hauling_82 : decode cX11_hauling 82 = .ok (.bipush (-2), 2) := by decide +kernel
theorem dX11_hauling_84 : decode cX11_hauling 84 = .ok (.ireturn, 1) := by decide +kernel
theorem dX11_hauling_85 : decode cX11_hauling 85 = .ok (.aload_n 0, 1) := by decide +kernel
theorem dX11_hauling_86 : decode cX11_hauling 86 = .ok (.getfield 68, 3) := by decide +kernel
theorem dX11_hauling_89 : decode cX11_hauling 89 = .ok (.aload_n 0, 1) := by decide +kernel
theorem dX11_hauling_90 : decode cX11_hauling 90 = .ok (.getfield 23, 3) := by decide +kernel
theorem dX11_hauling_93 : decode cX11_hauling 93 = .ok (.iload_n 1, 1) := by decide +kernel
theorem dX11_hauling_94 : decode cX11_hauling 94 = .ok (.iload_n 2, 1) := by decide +kernel
theorem dX11_hauling_95 : decode cX11_hauling 95 = .ok (.iload_n 3, 1) := by decide +kernel
theorem dX11_hauling_96 : decode cX11_hauling 96 = .ok (.invokevirtual 259, 3) := by decide +kernel
theorem dX11_hauling_99 : decode cX11_hauling 99 = .ok (.iload 4, 2) := by decide +kernel
theorem dX11_hauling_101 : decode cX11_hauling 101 = .ok (.iconst (-1), 1) := by decide +kernel
theorem dX11_hauling_102 : decode cX11_hauling 102 = .ok (.if_icmp .ne 13, 3) := by decide +kernel
theorem dX11_hauling_105 : decode cX11_hauling 105 = .ok (.aload_n 0, 1) := by decide +kernel
theorem dX11_hauling_106 : decode cX11_hauling 106 = .ok (.getfield 68, 3) := by decide +kernel
theorem dX11_hauling_109 : decode cX11_hauling 109 = .ok (.getfield 263, 3) := by decide +kernel
theorem dX11_hauling_112 : decode cX11_hauling 112 = .ok (.goto 12, 3) := by decide +kernel
theorem dX11_hauling_115 : decode cX11_hauling 115 = .ok (.aload_n 0, 1) := by decide +kernel
theorem dX11_hauling_116 : decode cX11_hauling 116 = .ok (.getfield 68, 3) := by decide +kernel
theorem dX11_hauling_119 : decode cX11_hauling 119 = .ok (.iload 4, 2) := by decide +kernel
theorem dX11_hauling_121 : decode cX11_hauling 121 = .ok (.invokevirtual 266, 3) := by decide +kernel
theorem dX11_hauling_124 : decode cX11_hauling 124 = .ok (.ireturn, 1) := by decide +kernel
theorem dX11_thing_0 : decode cX11_thing 0 = .ok (.iload_n 1, 1) := by decide +kernel
theorem dX11_thing_1 : decode cX11_thing 1 = .ok (.invokestatic 98, 3) := by decide +kernel
theorem dX11_thing_4 : decode cX11_thing 4 = .ok (.ifCond .eq 11, 3) := by decide +kernel
theorem dX11_thing_7 : decode cX11_thing 7 = .ok (.aload_n 0, 1) := by decide +kernel
theorem dX11_thing_8 : decode cX11_thing 8 = .ok (.iload_n 2, 1) := by decide +kernel
theorem dX11_thing_9 : decode cX11_thing 9 = .ok (.invokevirtual 102, 3) := by decide +kernel
theorem dX11_thing_12 : decode cX11_thing 12 = .ok (.ifCond .ne 5, 3) := by decide +kernel
theorem dX11_thing_15 : decode cX11_thing 15 = .ok (.iconst (-1), 1) := by decide +kernel
theorem dX11_thing_16 : decode cX11_thing 16 = .ok (.ireturn, 1) := by decide +kernel
theorem dX11_thing_17 : decode cX11_thing 17 = .ok (.aload_n 0, 1) := by decide +kernel
theorem dX11_thing_18 : decode cX11_thing 18 = .ok (.iload_n 1, 1) := by decide +kernel
theorem dX11_thing_19 : decode cX11_thing 19 = .ok (.iload_n 2, 1) := by decide +kernel
theorem dX11_thing_20 : decode cX11_thing 20 = .ok (.invokevirtual 269, 3) := by decide +kernel
theorem dX11_thing_23 : decode cX11_thing 23 = .ok (.ireturn, 1) := by decide +kernel
theorem dX11_upThere_0 : decode cX11_upThere 0 = .ok (.iload_n 1, 1) := by decide +kernel
theorem dX11_upThere_1 : decode cX11_upThere 1 = .ok (.invokestatic 98, 3) := by decide +kernel
theorem dX11_upThere_4 : decode cX11_upThere 4 = .ok (.ifCond .eq 11, 3) := by decide +kernel
theorem dX11_upThere_7 : decode cX11_upThere 7 = .ok (.aload_n 0, 1) := by decide +kernel
theorem dX11_upThere_8 : decode cX11_upThere 8 = .ok (.iload_n 2, 1) := by decide +kernel
theorem dX11_upThere_9 : decode cX11_upThere 9 = .ok (.invokevirtual 102, 3) := by decide +kernel
theorem dX11_upThere_12 : decode cX11_upThere 12 = .ok (.ifCond .ne 5, 3) := by decide +kernel
theorem dX11_upThere_15 : decode cX11_upThere 15 = .ok (.iconst (-1), 1) := by decide +kernel
theorem dX11_upThere_16 : decode cX11_upThere 16 = .ok (.ireturn, 1) := by decide +kernel
theorem dX11_upThere_17 : decode cX11_upThere 17 = .ok (.iconst 0, 1) := by decide +kernel
theorem dX11_upThere_18 : decode cX11_upThere 18 = .ok (.istore_n 3, 1) := by decide +kernel
theorem dX11_upThere_19 : decode cX11_upThere 19 = .ok (.iconst 0, 1) := by decide +kernel
theorem dX11_upThere_20 : decode cX11_upThere 20 = .ok (.istore 4, 2) := by decide +kernel
theorem dX11_upThere_22 : decode cX11_upThere 22 = .ok (.iload 4, 2) := by decide +kernel
theorem dX11_upThere_24 : decode cX11_upThere 24 = .ok (.iload_n 2, 1) := by decide +kernel
theorem dX11_upThere_25 : decode cX11_upThere 25 = .ok (.if_icmp .gt 27, 3) := by decide +kernel
theorem dX11_upThere_28 : decode cX11_upThere 28 = .ok (.aload_n 0, 1) := by decide +kernel
theorem dX11_upThere_29 : decode cX11_upThere 29 = .ok (.iload_n 1, 1) := by decide +kernel
theorem dX11_upThere_30 : decode cX11_upThere 30 = .ok (.iload 4, 2) := by decide +kernel
theorem dX11_upThere_32 : decode cX11_upThere 32 = .ok (.invokevirtual 269, 3) := by decide +kernel
theorem dX11_upThere_35 : decode cX11_upThere 35 = .ok (.iload_n 2, 1) := by decide +kernel
theorem dX11_upThere_36 : decode cX11_upThere 36 = .ok (.if_icmp .lt 10, 3) := by decide +kernel
theorem dX11_upThere_39 : decode cX11_upThere 39 = .ok (.iload_n 3, 1) := by decide +kernel
theorem dX11_upThere_40 : decode cX11_upThere 40 = .ok (.iconst 1, 1) := by decide +kernel
theorem dX11_upThere_41 : decode cX11_upThere 41 = .ok (.iload 4, 2) := by decide +kernel
theorem dX11_upThere_43 : decode cX11_upThere 43 = .ok (.ishl, 1) := by decide +kernel
theorem dX11_upThere_44 : decode cX11_upThere 44 = .ok (.ior, 1) := by decide +kernel
theorem dX11_upThere_45 : decode cX11_upThere 45 = .ok (.istore_n 3, 1) := by decide +kernel
theorem dX11_upThere_46 : decode cX11_upThere 46 = .ok (.iinc 4 1, 3) := by decide +kernel
theorem dX11_upThere_49 : decode cX11_upThere 49 = .ok (.goto (-27), 3) := by decide +kernel
theorem dX11_upThere_52 : decode cX11_upThere 52 = .ok (.iload_n 3, 1) := by decide +kernel
theorem dX11_upThere_53 : decode cX11_upThere 53 = .ok (.ireturn, 1) := by decide +kernel
theorem dX11_toRaise_0 : decode cX11_toRaise 0 = .ok (.aload_n 0, 1) := by decide +kernel
theorem dX11_toRaise_1 : decode cX11_toRaise 1 = .ok (.iload_n 1, 1) := by decide +kernel
theorem dX11_toRaise_2 : decode cX11_toRaise 2 = .ok (.invokevirtual 102, 3) := by decide +kernel
theorem dX11_toRaise_5 : decode cX11_toRaise 5 = .ok (.ifCond .ne 5, 3) := by decide +kernel
theorem dX11_toRaise_8 : decode cX11_toRaise 8 = .ok (.iconst (-1), 1) := by decide +kernel
theorem dX11_toRaise_9 : decode cX11_toRaise 9 = .ok (.ireturn, 1) := by decide +kernel
theorem dX11_toRaise_10 : decode cX11_toRaise 10 = .ok (.aload_n 0, 1) := by decide +kernel
theorem dX11_toRaise_11 : decode cX11_toRaise 11 = .ok (.iconst 0, 1) := by decide +kernel
theorem dX11_toRaise_12 : decode cX11_toRaise 12 = .ok (.invokevirtual 231, 3) := by decide +kernel
theorem dX11_toRaise_15 : decode cX11_toRaise 15 = .ok (.aload_n 0, 1) := by decide +kernel
theorem dX11_toRaise_16 : decode cX11_toRaise 16 = .ok (.getfield 23, 3) := by decide +kernel
theorem dX11_toRaise_19 : decode cX11_toRaise 19 = .ok (.getfield 165, 3) := by decide +kernel
theorem dX11_toRaise_22 : decode cX11_toRaise 22 = .ok (.iload_n 1, 1) := by decide +kernel
theorem dX11_toRaise_23 : decode cX11_toRaise 23 = .ok (.iaload, 1) := by decide +kernel
theorem dX11_toRaise_24 : decode cX11_toRaise 24 = .ok (.istore_n 2, 1) := by decide +kernel
theorem dX11_toRaise_25 : decode cX11_toRaise 25 = .ok (.iload_n 2, 1) := by decide +kernel
theorem dX11_toRaise_26 : decode cX11_toRaise 26 = .ok (.bipush 99, 2) := by decide +kernel
theorem dX11_toRaise_28 : decode cX11_toRaise 28 = .ok (.if_icmp .gt 36, 3) := by decide +kernel
theorem dX11_toRaise_31 : decode cX11_toRaise 31 = .ok (.aload_n 0, 1) := by decide +kernel
theorem dX11_toRaise_32 : decode cX11_toRaise 32 = .ok (.getfield 82, 3) := by decide +kernel
theorem dX11_toRaise_35 : decode cX11_toRaise 35 = .ok (.getfield 165, 3) := by decide +kernel
theorem dX11_toRaise_38 : decode cX11_toRaise 38 = .ok (.iload_n 1, 1) := by decide +kernel
theorem dX11_toRaise_39 : decode cX11_toRaise 39 = .ok (.iload_n 2, 1) := by decide +kernel
theorem dX11_toRaise_40 : decode cX11_toRaise 40 = .ok (.iastore, 1) := by decide +kernel
theorem dX11_toRaise_41 : decode cX11_toRaise 41 = .ok (.aload_n 0, 1) := by decide +kernel
theorem dX11_toRaise_42 : decode cX11_toRaise 42 = .ok (.getfield 45, 3) := by decide +kernel
theorem dX11_toRaise_45 : decode cX11_toRaise 45 = .ok (.aload_n 0, 1) := by decide +kernel
theorem dX11_toRaise_46 : decode cX11_toRaise 46 = .ok (.getfield 82, 3) := by decide +kernel
theorem dX11_toRaise_49 : decode cX11_toRaise 49 = .ok (.iload_n 1, 1) := by decide +kernel
theorem dX11_toRaise_50 : decode cX11_toRaise 50 = .ok (.invokevirtual 206, 3) := by decide +kernel
theorem dX11_toRaise_53 : decode cX11_toRaise 53 = .ok (.ifCond .ne 5, 3) := by decide +kernel
theorem dX11_toRaise_56 : decode cX11_toRaise 56 = .ok (.iload_n 2, 1) := by decide +kernel
theorem dX11_toRaise_57 : decode cX11_toRaise 57 = .ok (.ireturn, 1) := by decide +kernel
theorem dX11_toRaise_58 : decode cX11_toRaise 58 = .ok (.iinc 2 1, 3) := by decide +kernel
theorem dX11_toRaise_61 : decode cX11_toRaise 61 = .ok (.goto (-36), 3) := by decide +kernel
theorem dX11_toRaise_64 : decode cX11_toRaise 64 = .ok (.iconst (-1), 1) := by decide +kernel
theorem dX11_toRaise_65 : decode cX11_toRaise 65 = .ok (.ireturn, 1) := by decide +kernel
theorem dX11_states_0 : decode cX11_states 0 = .ok (.iconst 0, 1) := by decide +kernel
theorem dX11_states_1 : decode cX11_states 1 = .ok (.iload_n 1, 1) := by decide +kernel
theorem dX11_states_2 : decode cX11_states 2 = .ok (.sipush 999, 3) := by decide +kernel
theorem dX11_states_5 : decode cX11_states 5 = .ok (.invokestatic 86, 3) := by decide +kernel
theorem dX11_states_8 : decode cX11_states 8 = .ok (.ifCond .eq 26, 3) := by decide +kernel
theorem dX11_states_11 : decode cX11_states 11 = .ok (.aload_n 0, 1) := by decide +kernel
theorem dX11_states_12 : decode cX11_states 12 = .ok (.getfield 23, 3) := by decide +kernel
theorem dX11_states_15 : decode cX11_states 15 = .ok (.getfield 90, 3) := by decide +kernel
theorem dX11_states_18 : decode cX11_states 18 = .ok (.ifCond .eq 16, 3) := by decide +kernel
theorem dX11_states_21 : decode cX11_states 21 = .ok (.iload_n 2, 1) := by decide +kernel
theorem dX11_states_22 : decode cX11_states 22 = .ok (.iconst (-1), 1) := by decide +kernel
theorem dX11_states_23 : decode cX11_states 23 = .ok (.if_icmp .eq 15, 3) := by decide +kernel
theorem dX11_states_26 : decode cX11_states 26 = .ok (.aload_n 0, 1) := by decide +kernel
theorem dX11_states_27 : decode cX11_states 27 = .ok (.iload_n 2, 1) := by decide +kernel
theorem dX11_states_28 : decode cX11_states 28 = .ok (.invokevirtual 102, 3) := by decide +kernel
theorem dX11_states_31 : decode cX11_states 31 = .ok (.ifCond .ne 7, 3) := by decide +kernel
theorem dX11_states_34 : decode cX11_states 34 = .ok (.ldc_w 273, 3) := by decide +kernel
theorem dX11_states_37 : decode cX11_states 37 = .ok (.ireturn, 1) := by decide +kernel
theorem dX11_states_38 : decode cX11_states 38 = .ok (.iconst 0, 1) := by decide +kernel
theorem dX11_states_39 : decode cX11_states 39 = .ok (.istore_n 3, 1) := by decide +kernel
theorem dX11_states_40 : decode cX11_states 40 = .ok (.iload_n 3, 1) := by decide +kernel
theorem dX11_states_41 : decode cX11_states 41 = .ok (.aload_n 0, 1) := by decide +kernel
theorem dX11_states_42 : decode cX11_states 42 = .ok (.getfield 23, 3) := by decide +kernel
theorem dX11_states_45 : decode cX11_states 45 = .ok (.getfield 90, 3) := by decide +kernel
theorem dX11_states_48 : decode cX11_states 48 = .ok (.if_icmp .ge 32, 3) := by decide +kernel
theorem dX11_states_51 : decode cX11_states 51 = .ok (.aload_n 0, 1) := by decide +kernel
theorem dX11_states_52 : decode cX11_states 52 = .ok (.getfield 75, 3) := by decide +kernel
theorem dX11_states_55 : decode cX11_states 55 = .ok (.getfield 274, 3) := by decide +kernel
theorem dX11_states_58 : decode cX11_states 58 = .ok (.iload_n 3, 1) := by decide +kernel
theorem dX11_states_59 : decode cX11_states 59 = .ok (.aload_n 0, 1) := by decide +kernel
theorem dX11_states_60 : decode cX11_states 60 = .ok (.getfield 45, 3) := by decide +kernel
theorem dX11_states_63 : decode cX11_states 63 = .ok (.aload_n 0, 1) := by decide +kernel
theorem dX11_states_64 : decode cX11_states 64 = .ok (.getfield 23, 3) := by decide +kernel
theorem dX11_states_67 : decode cX11_states 67 = .ok (.iload_n 3, 1) := by decide +kernel
theorem dX11_states_68 : decode cX11_states 68 = .ok (.bipush 10, 2) := by decide +kernel
theorem dX11_states_70 : decode cX11_states 70 = .ok (.invokevirtual 277, 3) := by decide +kernel
theorem dX11_states_73 : decode cX11_states 73 = .ok (.iastore, 1) := by decide +kernel
theorem dX11_states_74 : decode cX11_states 74 = .ok (.iinc 3 1, 3) := by decide +kernel
theorem dX11_states_77 : decode cX11_states 77 = .ok (.goto (-37), 3) := by decide +kernel
theorem dX11_states_80 : decode cX11_states 80 = .ok (.aload_n 0, 1) := by decide +kernel
theorem dX11_states_81 : decode cX11_states 81 = .ok (.getfield 75, 3) := by decide +kernel
theorem dX11_states_84 : decode cX11_states 84 = .ok (.aload_n 0, 1) := by decide +kernel
theorem dX11_states_85 : decode cX11_states 85 = .ok (.getfield 23, 3) := by decide +kernel
theorem dX11_states_88 : decode cX11_states 88 = .ok (.getfield 90, 3) := by decide +kernel
theorem dX11_states_91 : decode cX11_states 91 = .ok (.iload_n 1, 1) := by decide +kernel
theorem dX11_states_92 : decode cX11_states 92 = .ok (.invokevirtual 281, 3) := by decide +kernel
theorem dX11_states_95 : decode cX11_states 95 = .ok (.iload_n 2, 1) := by decide +kernel
theorem dX11_states_96 : decode cX11_states 96 = .ok (.iconst (-1), 1) := by decide +kernel
theorem dX11_states_97 : decode cX11_states 97 = .ok (.if_icmp .ne 15, 3) := by decide +kernel
theorem dX11_states_100 : decode cX11_states 100 = .ok (.aload_n 0, 1) := by decide +kernel
theorem dX11_states_101 : decode cX11_states 101 = .ok (.getfield 75, 3) := by decide +kernel
theorem dX11_states_104 : decode cX11_states 104 = .ok (.getfield 284, 3) := by decide +kernel
theorem dX11_states_107 : decode cX11_states 107 = .ok (.iconst 0, 1) := by decide +kernel
theorem dX11_states_108 : decode cX11_states 108 = .ok (.iaload, 1) := by decide +kernel
theorem dX11_states_109 : decode cX11_states 109 = .ok (.goto 11, 3) := by decide +kernel
theorem dX11_states_112 : decode cX11_states 112 = .ok (.aload_n 0, 1) := by decide +kernel
theorem dX11_states_113 : decode cX11_states 113 = .ok (.getfield 75, 3) := by decide +kernel
theorem dX11_states_116 : decode cX11_states 116 = .ok (.iload_n 2, 1) := by decide +kernel
theorem dX11_states_117 : decode cX11_states 117 = .ok (.invokevirtual 287, 3) := by decide +kernel
theorem dX11_states_120 : decode cX11_states 120 = .ok (.ireturn, 1) := by decide +kernel
theorem dX11_sound_0 : decode cX11_sound 0 = .ok (.iload_n 1, 1) := by decide +kernel
theorem dX11_sound_1 : decode cX11_sound 1 = .ok (.iconst (-1), 1) := by decide +kernel
theorem dX11_sound_2 : decode cX11_sound 2 = .ok (.if_icmp .ne 13, 3) := by decide +kernel
theorem dX11_sound_5 : decode cX11_sound 5 = .ok (.aload_n 0, 1) := by decide +kernel
theorem dX11_sound_6 : decode cX11_sound 6 = .ok (.getfield 28, 3) := by decide +kernel
theorem dX11_sound_9 : decode cX11_sound 9 = .ok (.iconst 0, 1) := by decide +kernel
theorem dX11_sound_10 : decode cX11_sound 10 = .ok (.putfield 290, 3) := by decide +kernel
theorem dX11_sound_13 : decode cX11_sound 13 = .ok (.iconst 0, 1) := by decide +kernel
theorem dX11_sound_14 : decode cX11_sound 14 = .ok (.ireturn, 1) := by decide +kernel
theorem dX11_sound_15 : decode cX11_sound 15 = .ok (.iconst 0, 1) := by decide +kernel
theorem dX11_sound_16 : decode cX11_sound 16 = .ok (.iload_n 1, 1) := by decide +kernel
theorem dX11_sound_17 : decode cX11_sound 17 = .ok (.bipush 8, 2) := by decide +kernel
theorem dX11_sound_19 : decode cX11_sound 19 = .ok (.invokestatic 86, 3) := by decide +kernel
theorem dX11_sound_22 : decode cX11_sound 22 = .ok (.ifCond .eq 25, 3) := by decide +kernel
theorem dX11_sound_25 : decode cX11_sound 25 = .ok (.iconst 0, 1) := by decide +kernel
theorem dX11_sound_26 : decode cX11_sound 26 = .ok (.iload_n 2, 1) := by decide +kernel
theorem dX11_sound_27 : decode cX11_sound 27 = .ok (.bipush 99, 2) := by decide +kernel
theorem dX11_sound_29 : decode cX11_sound 29 = .ok (.invokestatic 86, 3) := by decide +kernel
theorem dX11_sound_32 : decode cX11_sound 32 = .ok (.ifCond .eq 15, 3) := by decide +kernel
theorem dX11_sound_35 : decode cX11_sound 35 = .ok (.aload_n 0, 1) := by decide +kernel
theorem dX11_sound_36 : decode cX11_sound 36 = .ok (.getfield 28, 3) := by decide +kernel
theorem dX11_sound_39 : decode cX11_sound 39 = .ok (.getfield 290, 3) := by decide +kernel
theorem dX11_sound_42 : decode cX11_sound 42 = .ok (.bipush 8, 2) := by decide +kernel
theorem dX11_sound_44 : decode cX11_sound 44 = .ok (.if_icmp .lt 6, 3) := by decide +kernel
theorem dX11_sound_47 : decode cX11_sound 47 = .ok (.bipush (-2), 2) := by decide +kernel
theorem dX11_sound_49 : decode cX11_sound 49 = .ok (.ireturn, 1) := by decide +kernel
theorem dX11_sound_50 : decode cX11_sound 50 = .ok (.aload_n 0, 1) := by decide +kernel
theorem dX11_sound_51 : decode cX11_sound 51 = .ok (.getfield 28, 3) := by decide +kernel
theorem dX11_sound_54 : decode cX11_sound 54 = .ok (.iload_n 1, 1) := by decide +kernel
theorem dX11_sound_55 : decode cX11_sound 55 = .ok (.iload_n 2, 1) := by decide +kernel
theorem dX11_sound_56 : decode cX11_sound 56 = .ok (.invokevirtual 295, 3) := by decide +kernel
theorem dX11_sound_59 : decode cX11_sound 59 = .ok (.aload_n 0, 1) := by decide +kernel
theorem dX11_sound_60 : decode cX11_sound 60 = .ok (.getfield 28, 3) := by decide +kernel
theorem dX11_sound_63 : decode cX11_sound 63 = .ok (.getfield 290, 3) := by decide +kernel
theorem dX11_sound_66 : decode cX11_sound 66 = .ok (.ireturn, 1) := by decide +kernel
theorem dX11_high_0 : decode cX11_high 0 = .ok (.iconst 0, 1) := by decide +kernel
theorem dX11_high_1 : decode cX11_high 1 = .ok (.iload_n 1, 1) := by decide +kernel
theorem dX11_high_2 : decode cX11_high 2 = .ok (.bipush 8, 2) := by decide +kernel
theorem dX11_high_4 : decode cX11_high 4 = .ok (.invokestatic 86, 3) := by decide +kernel
theorem dX11_high_7 : decode cX11_high 7 = .ok (.ifCond .ne 5, 3) := by decide +kernel
theorem dX11_high_10 : decode cX11_high 10 = .ok (.iconst (-1), 1) := by decide +kernel
theorem dX11_high_11 : decode cX11_high 11 = .ok (.ireturn, 1) := by decide +kernel
theorem dX11_high_12 : decode cX11_high 12 = .ok (.iconst (-1), 1) := by decide +kernel
theorem dX11_high_13 : decode cX11_high 13 = .ok (.istore_n 3, 1) := by decide +kernel
theorem dX11_high_14 : decode cX11_high 14 = .ok (.iconst 1, 1) := by decide +kernel
theorem dX11_high_15 : decode cX11_high 15 = .ok (.istore 4, 2) := by decide +kernel
theorem dX11_high_17 : decode cX11_high 17 = .ok (.iload 4, 2) := by decide +kernel
theorem dX11_high_19 : decode cX11_high 19 = .ok (.bipush 99, 2) := by decide +kernel
theorem dX11_high_21 : decode cX11_high 21 = .ok (.if_icmp .gt 32, 3) := by decide +kernel
theorem dX11_high_24 : decode cX11_high 24 = .ok (.aload_n 0, 1) := by decide +kernel
theorem dX11_high_25 : decode cX11_high 25 = .ok (.getfield 28, 3) := by decide +kernel
theorem dX11_high_28 : decode cX11_high 28 = .ok (.iload_n 1, 1) := by decide +kernel
theorem dX11_high_29 : decode cX11_high 29 = .ok (.iload 4, 2) := by decide +kernel
theorem dX11_high_31 : decode cX11_high 31 = .ok (.invokevirtual 298, 3) := by decide +kernel
theorem dX11_high_34 : decode cX11_high 34 = .ok (.ifCond .eq 13, 3) := by decide +kernel
theorem dX11_high_37 : decode cX11_high 37 = .ok (.iload_n 2, 1) := by decide +kernel
theorem dX11_high_38 : decode cX11_high 38 = .ok (.ifCond .ne 6, 3) := by decide +kernel
theorem dX11_high_41 : decode cX11_high 41 = .ok (.iload 4, 2) := by decide +kernel
theorem dX11_high_43 : decode cX11_high 43 = .ok (.ireturn, 1) := by decide +kernel
theorem dX11_high_44 : decode cX11_high 44 = .ok (.iload 4, 2) := by decide +kernel
theorem dX11_high_46 : decode cX11_high 46 = .ok (.istore_n 3, 1) := by decide +kernel
theorem dX11_high_47 : decode cX11_high 47 = .ok (.iinc 4 1, 3) := by decide +kernel
theorem dX11_high_50 : decode cX11_high 50 = .ok (.goto (-33), 3) := by decide +kernel
theorem dX11_high_53 : decode cX11_high 53 = .ok (.iload_n 3, 1) := by decide +kernel
theorem dX11_high_54 : decode cX11_high 54 = .ok (.ireturn, 1) := by decide +kernel
theorem dX11_wreck_0 : decode cX11_wreck 0 = .ok (.iload_n 1, 1) := by decide +kernel
theorem dX11_wreck_1 : decode cX11_wreck 1 = .ok (.iconst (-1), 1) := by decide +kernel
theorem dX11_wreck_2 : decode cX11_wreck 2 = .ok (.if_icmp .ne 13, 3) := by decide +kernel
theorem dX11_wreck_5 : decode cX11_wreck 5 = .ok (.aload_n 0, 1) := by decide +kernel
theorem dX11_wreck_6 : decode cX11_wreck 6 = .ok (.getfield 28, 3) := by decide +kernel
theorem dX11_wreck_9 : decode cX11_wreck 9 = .ok (.iconst 0, 1) := by decide +kernel
theorem dX11_wreck_10 : decode cX11_wreck 10 = .ok (.putfield 302, 3) := by decide +kernel
theorem dX11_wreck_13 : decode cX11_wreck 13 = .ok (.iconst 0, 1) := by decide +kernel
theorem dX11_wreck_14 : decode cX11_wreck 14 = .ok (.ireturn, 1) := by decide +kernel
theorem dX11_wreck_15 : decode cX11_wreck 15 = .ok (.iconst 0, 1) := by decide +kernel
theorem dX11_wreck_16 : decode cX11_wreck 16 = .ok (.iload_n 1, 1) := by decide +kernel
theorem dX11_wreck_17 : decode cX11_wreck 17 = .ok (.bipush 99, 2) := by decide +kernel
theorem dX11_wreck_19 : decode cX11_wreck 19 = .ok (.invokestatic 86, 3) := by decide +kernel
theorem dX11_wreck_22 : decode cX11_wreck 22 = .ok (.ifCond .eq 15, 3) := by decide +kernel
theorem dX11_wreck_25 : decode cX11_wreck 25 = .ok (.aload_n 0, 1) := by decide +kernel
theorem dX11_wreck_26 : decode cX11_wreck 26 = .ok (.getfield 28, 3) := by decide +kernel
theorem dX11_wreck_29 : decode cX11_wreck 29 = .ok (.getfield 302, 3) := by decide +kernel
theorem dX11_wreck_32 : decode cX11_wreck 32 = .ok (.bipush 10, 2) := by decide +kernel
theorem dX11_wreck_34 : decode cX11_wreck 34 = .ok (.if_icmp .lt 6, 3) := by decide +kernel
theorem dX11_wreck_37 : decode cX11_wreck 37 = .ok (.bipush (-2), 2) := by decide +kernel
theorem dX11_wreck_39 : decode cX11_wreck 39 = .ok (.ireturn, 1) := by decide +kernel
theorem dX11_wreck_40 : decode cX11_wreck 40 = .ok (.aload_n 0, 1) := by decide +kernel
theorem dX11_wreck_41 : decode cX11_wreck 41 = .ok (.getfield 28, 3) := by decide +kernel
theorem dX11_wreck_44 : decode cX11_wreck 44 = .ok (.iload_n 1, 1) := by decide +kernel
theorem dX11_wreck_45 : decode cX11_wreck 45 = .ok (.invokevirtual 305, 3) := by decide +kernel
theorem dX11_wreck_48 : decode cX11_wreck 48 = .ok (.aload_n 0, 1) := by decide +kernel
theorem dX11_wreck_49 : decode cX11_wreck 49 = .ok (.getfield 28, 3) := by decide +kernel
theorem dX11_wreck_52 : decode cX11_wreck 52 = .ok (.getfield 302, 3) := by decide +kernel
theorem dX11_wreck_55 : decode cX11_wreck 55 = .ok (.ireturn, 1) := by decide +kernel
theorem dX11_inOrder_0 : decode cX11_inOrder 0 = .ok (.aload_n 0, 1) := by decide +kernel
theorem dX11_inOrder_1 : decode cX11_inOrder 1 = .ok (.getfield 28, 3) := by decide +kernel
theorem dX11_inOrder_4 : decode cX11_inOrder 4 = .ok (.invokevirtual 308, 3) := by decide +kernel
theorem dX11_inOrder_7 : decode cX11_inOrder 7 = .ok (.istore_n 2, 1) := by decide +kernel
theorem dX11_inOrder_8 : decode cX11_inOrder 8 = .ok (.iload_n 1, 1) := by decide +kernel
theorem dX11_inOrder_9 : decode cX11_inOrder 9 = .ok (.iconst (-1), 1) := by decide +kernel
theorem dX11_inOrder_10 : decode cX11_inOrder 10 = .ok (.if_icmp .ne 5, 3) := by decide +kernel
theorem dX11_inOrder_13 : decode cX11_inOrder 13 = .ok (.iload_n 2, 1) := by decide +kernel
theorem dX11_inOrder_14 : decode cX11_inOrder 14 = .ok (.ireturn, 1) := by decide +kernel
theorem dX11_inOrder_15 : decode cX11_inOrder 15 = .ok (.iconst 0, 1) := by decide +kernel
theorem dX11_inOrder_16 : decode cX11_inOrder 16 = .ok (.iload_n 1, 1) := by decide +kernel
theorem dX11_inOrder_17 : decode cX11_inOrder 17 = .ok (.iload_n 2, 1) := by decide +kernel
theorem dX11_inOrder_18 : decode cX11_inOrder 18 = .ok (.iconst 1, 1) := by decide +kernel
theorem dX11_inOrder_19 : decode cX11_inOrder 19 = .ok (.isub, 1) := by decide +kernel
theorem dX11_inOrder_20 : decode cX11_inOrder 20 = .ok (.invokestatic 86, 3) := by decide +kernel
theorem dX11_inOrder_23 : decode cX11_inOrder 23 = .ok (.ifCond .eq 15, 3) := by decide +kernel
theorem dX11_inOrder_26 : decode cX11_inOrder 26 = .ok (.aload_n 0, 1) := by decide +kernel
theorem dX11_inOrder_27 : decode cX11_inOrder 27 = .ok (.getfield 28, 3) := by decide +kernel
theorem dX11_inOrder_30 : decode cX11_inOrder 30 = .ok (.iload_n 1, 1) := by decide +kernel
theorem dX11_inOrder_31 : decode cX11_inOrder 31 = .ok (.iload_n 2, 1) := by decide +kernel
theorem dX11_inOrder_32 : decode cX11_inOrder 32 = .ok (.invokevirtual 312, 3) := by decide +kernel
theorem dX11_inOrder_35 : decode cX11_inOrder 35 = .ok (.goto 5, 3) := by decide +kernel
theorem dX11_inOrder_38 : decode cX11_inOrder 38 = .ok (.bipush (-2), 2) := by decide +kernel
theorem dX11_inOrder_40 : decode cX11_inOrder 40 = .ok (.ireturn, 1) := by decide +kernel
theorem dX11_outOfOrder_0 : decode cX11_outOfOrder 0 = .ok (.iconst 0, 1) := by decide +kernel
theorem dX11_outOfOrder_1 : decode cX11_outOfOrder 1 = .ok (.istore_n 1, 1) := by decide +kernel
theorem dX11_outOfOrder_2 : decode cX11_outOfOrder 2 = .ok (.iconst 1, 1) := by decide +kernel
theorem dX11_outOfOrder_3 : decode cX11_outOfOrder 3 = .ok (.istore_n 2, 1) := by decide +kernel
theorem dX11_outOfOrder_4 : decode cX11_outOfOrder 4 = .ok (.iload_n 2, 1) := by decide +kernel
theorem dX11_outOfOrder_5 : decode cX11_outOfOrder 5 = .ok (.aload_n 0, 1) := by decide +kernel
theorem dX11_outOfOrder_6 : decode cX11_outOfOrder 6 = .ok (.getfield 28, 3) := by decide +kernel
theorem dX11_outOfOrder_9 : decode cX11_outOfOrder 9 = .ok (.getfield 302, 3) := by decide +kernel
theorem dX11_outOfOrder_12 : decode cX11_outOfOrder 12 = .ok (.if_icmp .ge 46, 3) := by decide +kernel
theorem dX11_outOfOrder_15 : decode cX11_outOfOrder 15 = .ok (.iconst 0, 1) := by decide +kernel
theorem dX11_outOfOrder_16 : decode cX11_outOfOrder 16 = .ok (.istore_n 3, 1) := by decide +kernel
theorem dX11_outOfOrder_17 : decode cX11_outOfOrder 17 = .ok (.iload_n 3, 1) := by decide +kernel
theorem dX11_outOfOrder_18 : decode cX11_outOfOrder 18 = .ok (.iload_n 2, 1) := by decide +kernel
theorem dX11_outOfOrder_19 : decode cX11_outOfOrder 19 = .ok (.if_icmp .ge 33, 3) := by decide +kernel
theorem dX11_outOfOrder_22 : decode cX11_outOfOrder 22 = .ok (.aload_n 0, 1) := by decide +kernel
theorem dX11_outOfOrder_23 : decode cX11_outOfOrder 23 = .ok (.getfield 28, 3) := by decide +kernel
theorem dX11_outOfOrder_26 : decode cX11_outOfOrder 26 = .ok (.getfield 315, 3) := by decide +kernel
theorem dX11_outOfOrder_29 : decode cX11_outOfOrder 29 = .ok (.iload_n 2, 1) := by decide +kernel
theorem dX11_outOfOrder_30 : decode cX11_outOfOrder 30 = .ok (.iaload, 1) := by decide +kernel
theorem dX11_outOfOrder_31 : decode cX11_outOfOrder 31 = .ok (.aload_n 0, 1) := by decide +kernel
theorem dX11_outOfOrder_32 : decode cX11_outOfOrder 32 = .ok (.getfield 28, 3) := by decide +kernel
theorem dX11_outOfOrder_35 : decode cX11_outOfOrder 35 = .ok (.getfield 315, 3) := by decide +kernel
theorem dX11_outOfOrder_38 : decode cX11_outOfOrder 38 = .ok (.iload_n 3, 1) := by decide +kernel
theorem dX11_outOfOrder_39 : decode cX11_outOfOrder 39 = .ok (.iaload, 1) := by decide +kernel
theorem dX11_outOfOrder_40 : decode cX11_outOfOrder 40 = .ok (.if_icmp .ge 6, 3) := by decide +kernel
theorem dX11_outOfOrder_43 : decode cX11_outOfOrder 43 = .ok (.iinc 1 1, 3) := by decide +kernel
theorem dX11_outOfOrder_46 : decode cX11_outOfOrder 46 = .ok (.iinc 3 1, 3) := by decide +kernel
theorem dX11_outOfOrder_49 : decode cX11_outOfOrder 49 = .ok (.goto (-32), 3) := by decide +kernel
theorem dX11_outOfOrder_52 : decode cX11_outOfOrder 52 = .ok (.iinc 2 1, 3) := by decide +kernel
theorem dX11_outOfOrder_55 : decode cX11_outOfOrder 55 = .ok (.goto (-51), 3) := by decide +kernel
theorem dX11_outOfOrder_58 : decode cX11_outOfOrder 58 = .ok (.iload_n 1, 1) := by decide +kernel
theorem dX11_outOfOrder_59 : decode cX11_outOfOrder 59 = .ok (.ireturn, 1) := by decide +kernel
theorem dX11_misheard_0 : decode cX11_misheard 0 = .ok (.iload_n 1, 1) := by decide +kernel
theorem dX11_misheard_1 : decode cX11_misheard 1 = .ok (.iconst (-1), 1) := by decide +kernel
theorem dX11_misheard_2 : decode cX11_misheard 2 = .ok (.if_icmp .ne 13, 3) := by decide +kernel
theorem dX11_misheard_5 : decode cX11_misheard 5 = .ok (.aload_n 0, 1) := by decide +kernel
theorem dX11_misheard_6 : decode cX11_misheard 6 = .ok (.getfield 28, 3) := by decide +kernel
theorem dX11_misheard_9 : decode cX11_misheard 9 = .ok (.iconst 0, 1) := by decide +kernel
theorem dX11_misheard_10 : decode cX11_misheard 10 = .ok (.putfield 318, 3) := by decide +kernel
theorem dX11_misheard_13 : decode cX11_misheard 13 = .ok (.iconst 0, 1) := by decide +kernel
theorem dX11_misheard_14 : decode cX11_misheard 14 = .ok (.ireturn, 1) := by decide +kernel
theorem dX11_misheard_15 : decode cX11_misheard 15 = .ok (.iconst 0, 1) := by decide +kernel
theorem dX11_misheard_16 : decode cX11_misheard 16 = .ok (.iload_n 1, 1) := by decide +kernel
theorem dX11_misheard_17 : decode cX11_misheard 17 = .ok (.bipush 9, 2) := by decide +kernel
theorem dX11_misheard_19 : decode cX11_misheard 19 = .ok (.invokestatic 86, 3) := by decide +kernel
theorem dX11_misheard_22 : decode cX11_misheard 22 = .ok (.ifCond .eq 18, 3) := by decide +kernel
theorem dX11_misheard_25 : decode cX11_misheard 25 = .ok (.iconst 0, 1) := by decide +kernel
theorem dX11_misheard_26 : decode cX11_misheard 26 = .ok (.iload_n 2, 1) := by decide +kernel
theorem dX11_misheard_27 : decode cX11_misheard 27 = .ok (.bipush 9, 2) := by decide +kernel
theorem dX11_misheard_29 : decode cX11_misheard 29 = .ok (.invokestatic 86, 3) := by decide +kernel
theorem dX11_misheard_32 : decode cX11_misheard 32 = .ok (.ifCond .eq 8, 3) := by decide +kernel
theorem dX11_misheard_35 : decode cX11_misheard 35 = .ok (.iload_n 1, 1) := by decide +kernel
theorem dX11_misheard_36 : decode cX11_misheard 36 = .ok (.iload_n 2, 1) := by decide +kernel
theorem dX11_misheard_37 : decode cX11_misheard 37 = .ok (.if_icmp .ne 6, 3) := by decide +kernel
theorem dX11_misheard_40 : decode cX11_misheard 40 = .ok (.bipush (-2), 2) := by decide +kernel
theorem dX11_misheard_42 : decode cX11_misheard 42 = .ok (.ireturn, 1) := by decide +kernel
theorem dX11_misheard_43 : decode cX11_misheard 43 = .ok (.aload_n 0, 1) := by decide +kernel
theorem dX11_misheard_44 : decode cX11_misheard 44 = .ok (.getfield 28, 3) := by decide +kernel
theorem dX11_misheard_47 : decode cX11_misheard 47 = .ok (.getfield 318, 3) := by decide +kernel
theorem dX11_misheard_50 : decode cX11_misheard 50 = .ok (.bipush 15, 2) := by decide +kernel
theorem dX11_misheard_52 : decode cX11_misheard 52 = .ok (.if_icmp .lt 6, 3) := by decide +kernel
theorem dX11_misheard_55 : decode cX11_misheard 55 = .ok (.bipush (-2), 2) := by decide +kernel
theorem dX11_misheard_57 : decode cX11_misheard 57 = .ok (.ireturn, 1) := by decide +kernel
theorem dX11_misheard_58 : decode cX11_misheard 58 = .ok (.aload_n 0, 1) := by decide +kernel
theorem dX11_misheard_59 : decode cX11_misheard 59 = .ok (.getfield 28, 3) := by decide +kernel
theorem dX11_misheard_62 : decode cX11_misheard 62 = .ok (.iload_n 1, 1) := by decide +kernel
theorem dX11_misheard_63 : decode cX11_misheard 63 = .ok (.iload_n 2, 1) := by decide +kernel
theorem dX11_misheard_64 : decode cX11_misheard 64 = .ok (.invokevirtual 321, 3) := by decide +kernel
theorem dX11_misheard_67 : decode cX11_misheard 67 = .ok (.aload_n 0, 1) := by decide +kernel
theorem dX11_misheard_68 : decode cX11_misheard 68 = .ok (.getfield 28, 3) := by decide +kernel
theorem dX11_misheard_71 : decode cX11_misheard 71 = .ok (.getfield 318, 3) := by decide +kernel
theorem dX11_misheard_74 : decode cX11_misheard 74 = .ok (.ireturn, 1) := by decide +kernel
theorem dX11_apart_0 : decode cX11_apart 0 = .ok (.iconst 1, 1) := by decide +kernel
theorem dX11_apart_1 : decode cX11_apart 1 = .ok (.iload_n 1, 1) := by decide +kernel
theorem dX11_apart_2 : decode cX11_apart 2 = .ok (.bipush 10, 2) := by decide +kernel
theorem dX11_apart_4 : decode cX11_apart 4 = .ok (.invokestatic 86, 3) := by decide +kernel
theorem dX11_apart_7 : decode cX11_apart 7 = .ok (.ifCond .ne 5, 3) := by decide +kernel
theorem dX11_apart_10 : decode cX11_apart 10 = .ok (.iconst (-1), 1) := by decide +kernel
theorem dX11_apart_11 : decode cX11_apart 11 = .ok (.ireturn, 1) := by decide +kernel
theorem dX11_apart_12 : decode cX11_apart 12 = .ok (.iconst 0, 1) := by decide +kernel
theorem dX11_apart_13 : decode cX11_apart 13 = .ok (.istore_n 2, 1) := by decide +kernel
theorem dX11_apart_14 : decode cX11_apart 14 = .ok (.iconst 1, 1) := by decide +kernel
theorem dX11_apart_15 : decode cX11_apart 15 = .ok (.istore_n 3, 1) := by decide +kernel
theorem dX11_apart_16 : decode cX11_apart 16 = .ok (.iload_n 3, 1) := by decide +kernel
theorem dX11_apart_17 : decode cX11_apart 17 = .ok (.iconst 1, 1) := by decide +kernel
theorem dX11_apart_18 : decode cX11_apart 18 = .ok (.iload_n 1, 1) := by decide +kernel
theorem dX11_apart_19 : decode cX11_apart 19 = .ok (.ishl, 1) := by decide +kernel
theorem dX11_apart_20 : decode cX11_apart 20 = .ok (.if_icmp .ge 33, 3) := by decide +kernel
theorem dX11_apart_23 : decode cX11_apart 23 = .ok (.iload_n 3, 1) := by decide +kernel
theorem dX11_apart_24 : decode cX11_apart 24 = .ok (.invokestatic 254, 3) := by decide +kernel
theorem dX11_apart_27 : decode cX11_apart 27 = .ok (.iload_n 2, 1) := by decide +kernel
theorem dX11_apart_28 : decode cX11_apart 28 = .ok (.invokestatic 254, 3) := by decide +kernel
theorem dX11_apart_31 : decode cX11_apart 31 = .ok (.if_icmp .le 16, 3) := by decide +kernel
theorem dX11_apart_34 : decode cX11_apart 34 = .ok (.aload_n 0, 1) := by decide +kernel
theorem dX11_apart_35 : decode cX11_apart 35 = .ok (.getfield 28, 3) := by decide +kernel
theorem dX11_apart_38 : decode cX11_apart 38 = .ok (.iload_n 3, 1) := by decide +kernel
theorem dX11_apart_39 : decode cX11_apart 39 = .ok (.invokevirtual 324, 3) := by decide +kernel
theorem dX11_apart_42 : decode cX11_apart 42 = .ok (.ifCond .eq 5, 3) := by decide +kernel
theorem dX11_apart_45 : decode cX11_apart 45 = .ok (.iload_n 3, 1) := by decide +kernel
theorem dX11_apart_46 : decode cX11_apart 46 = .ok (.istore_n 2, 1) := by decide +kernel
theorem dX11_apart_47 : decode cX11_apart 47 = .ok (.iinc 3 1, 3) := by decide +kernel
theorem dX11_apart_50 : decode cX11_apart 50 = .ok (.goto (-34), 3) := by decide +kernel
theorem dX11_apart_53 : decode cX11_apart 53 = .ok (.iload_n 2, 1) := by decide +kernel
theorem dX11_apart_54 : decode cX11_apart 54 = .ok (.ireturn, 1) := by decide +kernel
theorem dX11_chains_0 : decode cX11_chains 0 = .ok (.iconst 1, 1) := by decide +kernel
theorem dX11_chains_1 : decode cX11_chains 1 = .ok (.iload_n 1, 1) := by decide +kernel
theorem dX11_chains_2 : decode cX11_chains 2 = .ok (.bipush 10, 2) := by decide +kernel
theorem dX11_chains_4 : decode cX11_chains 4 = .ok (.invokestatic 86, 3) := by decide +kernel
theorem dX11_chains_7 : decode cX11_chains 7 = .ok (.ifCond .ne 5, 3) := by decide +kernel
theorem dX11_chains_10 : decode cX11_chains 10 = .ok (.iconst (-1), 1) := by decide +kernel
theorem dX11_chains_11 : decode cX11_chains 11 = .ok (.ireturn, 1) := by decide +kernel
theorem dX11_chains_12 : decode cX11_chains 12 = .ok (.iconst 0, 1) := by decide +kernel
theorem dX11_chains_13 : decode cX11_chains 13 = .ok (.istore_n 2, 1) := by decide +kernel
theorem dX11_chains_14 : decode cX11_chains 14 = .ok (.iconst 0, 1) := by decide +kernel
theorem dX11_chains_15 : decode cX11_chains 15 = .ok (.istore_n 3, 1) := by decide +kernel
theorem dX11_chains_16 : decode cX11_chains 16 = .ok (.iconst 0, 1) := by decide +kernel
theorem dX11_chains_17 : decode cX11_chains 17 = .ok (.istore 4, 2) := by decide +kernel
theorem dX11_chains_19 : decode cX11_chains 19 = .ok (.iload 4, 2) := by decide +kernel
theorem dX11_chains_21 : decode cX11_chains 21 = .ok (.iload_n 1, 1) := by decide +kernel
theorem dX11_chains_22 : decode cX11_chains 22 = .ok (.if_icmp .ge 34, 3) := by decide +kernel
theorem dX11_chains_25 : decode cX11_chains 25 = .ok (.iload_n 3, 1) := by decide +kernel
theorem dX11_chains_26 : decode cX11_chains 26 = .ok (.iconst 1, 1) := by decide +kernel
theorem dX11_chains_27 : decode cX11_chains 27 = .ok (.iload 4, 2) := by decide +kernel
theorem dX11_chains_29 : decode cX11_chains 29 = .ok (.ishl, 1) := by decide +kernel
theorem dX11_chains_30 : decode cX11_chains 30 = .ok (.iand, 1) := by decide +kernel
theorem dX11_chains_31 : decode cX11_chains 31 = .ok (.ifCond .ne 19, 3) := by decide +kernel
theorem dX11_chains_34 : decode cX11_chains 34 = .ok (.iload_n 3, 1) := by decide +kernel
theorem dX11_chains_35 : decode cX11_chains 35 = .ok (.aload_n 0, 1) := by decide +kernel
theorem dX11_chains_36 : decode cX11_chains 36 = .ok (.getfield 28, 3) := by decide +kernel
theorem dX11_chains_39 : decode cX11_chains 39 = .ok (.iload 4, 2) := by decide +kernel
theorem dX11_chains_41 : decode cX11_chains 41 = .ok (.iload_n 1, 1) := by decide +kernel
theorem dX11_chains_42 : decode cX11_chains 42 = .ok (.invokevirtual 327, 3) := by decide +kernel
theorem dX11_chains_45 : decode cX11_chains 45 = .ok (.ior, 1) := by decide +kernel
theorem dX11_chains_46 : decode cX11_chains 46 = .ok (.istore_n 3, 1) := by decide +kernel
theorem dX11_chains_47 : decode cX11_chains 47 = .ok (.iinc 2 1, 3) := by decide +kernel
theorem dX11_chains_50 : decode cX11_chains 50 = .ok (.iinc 4 1, 3) := by decide +kernel
theorem dX11_chains_53 : decode cX11_chains 53 = .ok (.goto (-34), 3) := by decide +kernel
theorem dX11_chains_56 : decode cX11_chains 56 = .ok (.iload_n 2, 1) := by decide +kernel
theorem dX11_chains_57 : decode cX11_chains 57 = .ok (.ireturn, 1) := by decide +kernel
theorem dX11_waiting_0 : decode cX11_waiting 0 = .ok (.aload_n 0, 1) := by decide +kernel
theorem dX11_waiting_1 : decode cX11_waiting 1 = .ok (.iload_n 1, 1) := by decide +kernel
theorem dX11_waiting_2 : decode cX11_waiting 2 = .ok (.invokevirtual 102, 3) := by decide +kernel
theorem dX11_waiting_5 : decode cX11_waiting 5 = .ok (.ifCond .eq 15, 3) := by decide +kernel
theorem dX11_waiting_8 : decode cX11_waiting 8 = .ok (.aload_n 0, 1) := by decide +kernel
theorem dX11_waiting_9 : decode cX11_waiting 9 = .ok (.getfield 23, 3) := by decide +kernel
theorem dX11_waiting_12 : decode cX11_waiting 12 = .ok (.iload_n 1, 1) := by decide +kernel
theorem dX11_waiting_13 : decode cX11_waiting 13 = .ok (.iload_n 2, 1) := by decide +kernel
theorem dX11_waiting_14 : decode cX11_waiting 14 = .ok (.invokevirtual 330, 3) := by decide +kernel
theorem dX11_waiting_17 : decode cX11_waiting 17 = .ok (.goto 4, 3) := by decide +kernel
theorem dX11_waiting_20 : decode cX11_waiting 20 = .ok (.iconst (-1), 1) := by decide +kernel
theorem dX11_waiting_21 : decode cX11_waiting 21 = .ok (.ireturn, 1) := by decide +kernel
theorem dX11_run_0 : decode cX11_run 0 = .ok (.aload_n 0, 1) := by decide +kernel
theorem dX11_run_1 : decode cX11_run 1 = .ok (.getfield 23, 3) := by decide +kernel
theorem dX11_run_4 : decode cX11_run 4 = .ok (.getfield 105, 3) := by decide +kernel
theorem dX11_run_7 : decode cX11_run 7 = .ok (.ifCond .ne 5, 3) := by decide +kernel
theorem dX11_run_10 : decode cX11_run 10 = .ok (.iconst (-1), 1) := by decide +kernel
theorem dX11_run_11 : decode cX11_run 11 = .ok (.ireturn, 1) := by decide +kernel
theorem dX11_run_12 : decode cX11_run 12 = .ok (.iconst 1, 1) := by decide +kernel
theorem dX11_run_13 : decode cX11_run 13 = .ok (.aload_n 0, 1) := by decide +kernel
theorem dX11_run_14 : decode cX11_run 14 = .ok (.getfield 23, 3) := by decide +kernel
theorem dX11_run_17 : decode cX11_run 17 = .ok (.getfield 105, 3) := by decide +kernel
theorem dX11_run_20 : decode cX11_run 20 = .ok (.ishl, 1) := by decide +kernel
theorem dX11_run_21 : decode cX11_run 21 = .ok (.iconst 1, 1) := by decide +kernel
theorem dX11_run_22 : decode cX11_run 22 = .ok (.isub, 1) := by decide +kernel
theorem dX11_run_23 : decode cX11_run 23 = .ok (.istore_n 2, 1) := by decide +kernel
theorem dX11_run_24 : decode cX11_run 24 = .ok (.iconst 0, 1) := by decide +kernel
theorem dX11_run_25 : decode cX11_run 25 = .ok (.istore_n 3, 1) := by decide +kernel
theorem dX11_run_26 : decode cX11_run 26 = .ok (.aload_n 0, 1) := by decide +kernel
theorem dX11_run_27 : decode cX11_run 27 = .ok (.iconst 0, 1) := by decide +kernel
theorem dX11_run_28 : decode cX11_run 28 = .ok (.invokevirtual 231, 3) := by decide +kernel
theorem dX11_run_31 : decode cX11_run 31 = .ok (.iconst 0, 1) := by decide +kernel
theorem dX11_run_32 : decode cX11_run 32 = .ok (.istore 4, 2) := by decide +kernel
theorem dX11_run_34 : decode cX11_run 34 = .ok (.iload 4, 2) := by decide +kernel
theorem dX11_run_36 : decode cX11_run 36 = .ok (.bipush 48, 2) := by decide +kernel
theorem dX11_run_38 : decode cX11_run 38 = .ok (.if_icmp .gt 58, 3) := by decide +kernel
theorem dX11_run_41 : decode cX11_run 41 = .ok (.aload_n 0, 1) := by decide +kernel
theorem dX11_run_42 : decode cX11_run 42 = .ok (.getfield 82, 3) := by decide +kernel
theorem dX11_run_45 : decode cX11_run 45 = .ok (.invokevirtual 334, 3) := by decide +kernel
theorem dX11_run_48 : decode cX11_run 48 = .ok (.istore 5, 2) := by decide +kernel
theorem dX11_run_50 : decode cX11_run 50 = .ok (.iload 5, 2) := by decide +kernel
theorem dX11_run_52 : decode cX11_run 52 = .ok (.iload_n 2, 1) := by decide +kernel
theorem dX11_run_53 : decode cX11_run 53 = .ok (.if_icmp .ne 22, 3) := by decide +kernel
theorem dX11_run_56 : decode cX11_run 56 = .ok (.iload_n 1, 1) := by decide +kernel
theorem dX11_run_57 : decode cX11_run 57 = .ok (.ifCond .eq 15, 3) := by decide +kernel
theorem dX11_run_60 : decode cX11_run 60 = .ok (.iload 5, 2) := by decide +kernel
theorem dX11_run_62 : decode cX11_run 62 = .ok (.iload_n 3, 1) := by decide +kernel
theorem dX11_run_63 : decode cX11_run 63 = .ok (.iconst (-1), 1) := by decide +kernel
theorem dX11_run_64 : decode cX11_run 64 = .ok (.ixor, 1) := by decide +kernel
theorem dX11_run_65 : decode cX11_run 65 = .ok (.iand, 1) := by decide +kernel
theorem dX11_run_66 : decode cX11_run 66 = .ok (.invokestatic 337, 3) := by decide +kernel
theorem dX11_run_69 : decode cX11_run 69 = .ok (.goto 5, 3) := by decide +kernel
theorem dX11_run_72 : decode cX11_run 72 = .ok (.iload 4, 2) := by decide +kernel
theorem dX11_run_74 : decode cX11_run 74 = .ok (.ireturn, 1) := by decide +kernel
theorem dX11_run_75 : decode cX11_run 75 = .ok (.iload 5, 2) := by decide +kernel
theorem dX11_run_77 : decode cX11_run 77 = .ok (.istore_n 3, 1) := by decide +kernel
theorem dX11_run_78 : decode cX11_run 78 = .ok (.aload_n 0, 1) := by decide +kernel
theorem dX11_run_79 : decode cX11_run 79 = .ok (.getfield 54, 3) := by decide +kernel
theorem dX11_run_82 : decode cX11_run 82 = .ok (.aload_n 0, 1) := by decide +kernel
theorem dX11_run_83 : decode cX11_run 83 = .ok (.getfield 82, 3) := by decide +kernel
theorem dX11_run_86 : decode cX11_run 86 = .ok (.invokevirtual 234, 3) := by decide +kernel
theorem dX11_run_89 : decode cX11_run 89 = .ok (.pop, 1) := by decide +kernel
theorem dX11_run_90 : decode cX11_run 90 = .ok (.iinc 4 1, 3) := by decide +kernel
theorem dX11_run_93 : decode cX11_run 93 = .ok (.goto (-59), 3) := by decide +kernel
theorem dX11_run_96 : decode cX11_run 96 = .ok (.iconst (-1), 1) := by decide +kernel
theorem dX11_run_97 : decode cX11_run 97 = .ok (.ireturn, 1) := by decide +kernel
theorem dX11_image_0 : decode cX11_image 0 = .ok (.aload_n 0, 1) := by decide +kernel
theorem dX11_image_1 : decode cX11_image 1 = .ok (.getfield 16, 3) := by decide +kernel
theorem dX11_image_4 : decode cX11_image 4 = .ok (.aload_n 0, 1) := by decide +kernel
theorem dX11_image_5 : decode cX11_image 5 = .ok (.getfield 12, 3) := by decide +kernel
theorem dX11_image_8 : decode cX11_image 8 = .ok (.invokevirtual 340, 3) := by decide +kernel
theorem dX11_image_11 : decode cX11_image 11 = .ok (.aload_n 0, 1) := by decide +kernel
theorem dX11_image_12 : decode cX11_image 12 = .ok (.getfield 23, 3) := by decide +kernel
theorem dX11_image_15 : decode cX11_image 15 = .ok (.getfield 140, 3) := by decide +kernel
theorem dX11_image_18 : decode cX11_image 18 = .ok (.ireturn, 1) := by decide +kernel
theorem dX11_back_0 : decode cX11_back 0 = .ok (.aload_n 0, 1) := by decide +kernel
theorem dX11_back_1 : decode cX11_back 1 = .ok (.getfield 12, 3) := by decide +kernel
theorem dX11_back_4 : decode cX11_back 4 = .ok (.aload_n 0, 1) := by decide +kernel
theorem dX11_back_5 : decode cX11_back 5 = .ok (.getfield 16, 3) := by decide +kernel
theorem dX11_back_8 : decode cX11_back 8 = .ok (.invokevirtual 340, 3) := by decide +kernel
theorem dX11_back_11 : decode cX11_back 11 = .ok (.aload_n 0, 1) := by decide +kernel
theorem dX11_back_12 : decode cX11_back 12 = .ok (.invokevirtual 137, 3) := by decide +kernel
theorem dX11_back_15 : decode cX11_back 15 = .ok (.aload_n 0, 1) := by decide +kernel
theorem dX11_back_16 : decode cX11_back 16 = .ok (.getfield 23, 3) := by decide +kernel
theorem dX11_back_19 : decode cX11_back 19 = .ok (.getfield 140, 3) := by decide +kernel
theorem dX11_back_22 : decode cX11_back 22 = .ok (.ireturn, 1) := by decide +kernel
theorem dX11_about_0 : decode cX11_about 0 = .ok (.iload_n 1, 1) := by decide +kernel
theorem dX11_about_1 : decode cX11_about 1 = .ok (.tableswitch 126 0 8 #[51, 59, 67, 75, 83, 94, 102, 110, 118], 51) := by decide +kernel
theorem dX11_about_52 : decode cX11_about 52 = .ok (.aload_n 0, 1) := by decide +kernel
theorem dX11_about_53 : decode cX11_about 53 = .ok (.getfield 23, 3) := by decide +kernel
theorem dX11_about_56 : decode cX11_about 56 = .ok (.getfield 90, 3) := by decide +kernel
theorem dX11_about_59 : decode cX11_about 59 = .ok (.ireturn, 1) := by decide +kernel
theorem dX11_about_60 : decode cX11_about 60 = .ok (.aload_n 0, 1) := by decide +kernel
theorem dX11_about_61 : decode cX11_about 61 = .ok (.getfield 23, 3) := by decide +kernel
theorem dX11_about_64 : decode cX11_about 64 = .ok (.getfield 105, 3) := by decide +kernel
theorem dX11_about_67 : decode cX11_about 67 = .ok (.ireturn, 1) := by decide +kernel
theorem dX11_about_68 : decode cX11_about 68 = .ok (.aload_n 0, 1) := by decide +kernel
theorem dX11_about_69 : decode cX11_about 69 = .ok (.getfield 12, 3) := by decide +kernel
theorem dX11_about_72 : decode cX11_about 72 = .ok (.getfield 119, 3) := by decide +kernel
theorem dX11_about_75 : decode cX11_about 75 = .ok (.ireturn, 1) := by decide +kernel
theorem dX11_about_76 : decode cX11_about 76 = .ok (.aload_n 0, 1) := by decide +kernel
theorem dX11_about_77 : decode cX11_about 77 = .ok (.getfield 12, 3) := by decide +kernel
theorem dX11_about_80 : decode cX11_about 80 = .ok (.getfield 134, 3) := by decide +kernel
theorem dX11_about_83 : decode cX11_about 83 = .ok (.ireturn, 1) := by decide +kernel
theorem dX11_about_84 : decode cX11_about 84 = .ok (.aload_n 0, 1) := by decide +kernel
theorem dX11_about_85 : decode cX11_about 85 = .ok (.getfield 12, 3) := by decide +kernel
theorem dX11_about_88 : decode cX11_about 88 = .ok (.getfield 147, 3) := by decide +kernel
theorem dX11_about_91 : decode cX11_about 91 = .ok (.getfield 344, 3) := by decide +kernel
theorem dX11_about_94 : decode cX11_about 94 = .ok (.ireturn, 1) := by decide +kernel
theorem dX11_about_95 : decode cX11_about 95 = .ok (.aload_n 0, 1) := by decide +kernel
theorem dX11_about_96 : decode cX11_about 96 = .ok (.getfield 28, 3) := by decide +kernel
theorem dX11_about_99 : decode cX11_about 99 = .ok (.getfield 290, 3) := by decide +kernel
theorem dX11_about_102 : decode cX11_about 102 = .ok (.ireturn, 1) := by decide +kernel
theorem dX11_about_103 : decode cX11_about 103 = .ok (.aload_n 0, 1) := by decide +kernel
theorem dX11_about_104 : decode cX11_about 104 = .ok (.getfield 28, 3) := by decide +kernel
theorem dX11_about_107 : decode cX11_about 107 = .ok (.getfield 302, 3) := by decide +kernel
theorem dX11_about_110 : decode cX11_about 110 = .ok (.ireturn, 1) := by decide +kernel
theorem dX11_about_111 : decode cX11_about 111 = .ok (.aload_n 0, 1) := by decide +kernel
theorem dX11_about_112 : decode cX11_about 112 = .ok (.getfield 28, 3) := by decide +kernel
theorem dX11_about_115 : decode cX11_about 115 = .ok (.getfield 318, 3) := by decide +kernel
theorem dX11_about_118 : decode cX11_about 118 = .ok (.ireturn, 1) := by decide +kernel
theorem dX11_about_119 : decode cX11_about 119 = .ok (.aload_n 0, 1) := by decide +kernel
theorem dX11_about_120 : decode cX11_about 120 = .ok (.getfield 38, 3) := by decide +kernel
theorem dX11_about_123 : decode cX11_about 123 = .ok (.getfield 112, 3) := by decide +kernel
theorem dX11_about_126 : decode cX11_about 126 = .ok (.ireturn, 1) := by decide +kernel
theorem dX11_about_127 : decode cX11_about 127 = .ok (.bipush (-2), 2) := by decide +kernel
theorem dX11_about_129 : decode cX11_about 129 = .ok (.ireturn, 1) := by decide +kernel
theorem dX11_isBetween_0 : decode cX11_isBetween 0 = .ok (.iload_n 0, 1) := by decide +kernel
theorem dX11_isBetween_1 : decode cX11_isBetween 1 = .ok (.iload_n 1, 1) := by decide +kernel
theorem dX11_isBetween_2 : decode cX11_isBetween 2 = .ok (.if_icmp .gt 12, 3) := by decide +kernel
theorem dX11_isBetween_5 : decode cX11_isBetween 5 = .ok (.iload_n 1, 1) := by decide +kernel
theorem dX11_isBetween_6 : decode cX11_isBetween 6 = .ok (.iload_n 2, 1) := by decide +kernel
theorem dX11_isBetween_7 : decode cX11_isBetween 7 = .ok (.if_icmp .gt 7, 3) := by decide +kernel
theorem dX11_isBetween_10 : decode cX11_isBetween 10 = .ok (.iconst 1, 1) := by decide +kernel
theorem dX11_isBetween_11 : decode cX11_isBetween 11 = .ok (.goto 4, 3) := by decide +kernel
theorem dX11_isBetween_14 : decode cX11_isBetween 14 = .ok (.iconst 0, 1) := by decide +kernel
theorem dX11_isBetween_15 : decode cX11_isBetween 15 = .ok (.ireturn, 1) := by decide +kernel
theorem dX11_isWeight_0 : decode cX11_isWeight 0 = .ok (.iconst 1, 1) := by decide +kernel
theorem dX11_isWeight_1 : decode cX11_isWeight 1 = .ok (.iload_n 0, 1) := by decide +kernel
theorem dX11_isWeight_2 : decode cX11_isWeight 2 = .ok (.bipush 99, 2) := by decide +kernel
theorem dX11_isWeight_4 : decode cX11_isWeight 4 = .ok (.invokestatic 86, 3) := by decide +kernel
theorem dX11_isWeight_7 : decode cX11_isWeight 7 = .ok (.ireturn, 1) := by decide +kernel
theorem dX11_isStep_0 : decode cX11_isStep 0 = .ok (.iconst 0, 1) := by decide +kernel
theorem dX11_isStep_1 : decode cX11_isStep 1 = .ok (.iload_n 1, 1) := by decide +kernel
theorem dX11_isStep_2 : decode cX11_isStep 2 = .ok (.aload_n 0, 1) := by decide +kernel
theorem dX11_isStep_3 : decode cX11_isStep 3 = .ok (.getfield 23, 3) := by decide +kernel
theorem dX11_isStep_6 : decode cX11_isStep 6 = .ok (.getfield 90, 3) := by decide +kernel
theorem dX11_isStep_9 : decode cX11_isStep 9 = .ok (.iconst 1, 1) := by decide +kernel
theorem dX11_isStep_10 : decode cX11_isStep 10 = .ok (.isub, 1) := by decide +kernel
theorem dX11_isStep_11 : decode cX11_isStep 11 = .ok (.invokestatic 86, 3) := by decide +kernel
theorem dX11_isStep_14 : decode cX11_isStep 14 = .ok (.ireturn, 1) := by decide +kernel
theorem dX11_hasRiser_0 : decode cX11_hasRiser 0 = .ok (.iconst 0, 1) := by decide +kernel
theorem dX11_hasRiser_1 : decode cX11_hasRiser 1 = .ok (.iload_n 1, 1) := by decide +kernel
theorem dX11_hasRiser_2 : decode cX11_hasRiser 2 = .ok (.aload_n 0, 1) := by decide +kernel
theorem dX11_hasRiser_3 : decode cX11_hasRiser 3 = .ok (.getfield 23, 3) := by decide +kernel
theorem dX11_hasRiser_6 : decode cX11_hasRiser 6 = .ok (.getfield 90, 3) := by decide +kernel
theorem dX11_hasRiser_9 : decode cX11_hasRiser 9 = .ok (.iconst 2, 1) := by decide +kernel
theorem dX11_hasRiser_10 : decode cX11_hasRiser 10 = .ok (.isub, 1) := by decide +kernel
theorem dX11_hasRiser_11 : decode cX11_hasRiser 11 = .ok (.invokestatic 86, 3) := by decide +kernel
theorem dX11_hasRiser_14 : decode cX11_hasRiser 14 = .ok (.ireturn, 1) := by decide +kernel
theorem dX11_isShip_0 : decode cX11_isShip 0 = .ok (.iconst 0, 1) := by decide +kernel
theorem dX11_isShip_1 : decode cX11_isShip 1 = .ok (.iload_n 1, 1) := by decide +kernel
theorem dX11_isShip_2 : decode cX11_isShip 2 = .ok (.aload_n 0, 1) := by decide +kernel
theorem dX11_isShip_3 : decode cX11_isShip 3 = .ok (.getfield 23, 3) := by decide +kernel
theorem dX11_isShip_6 : decode cX11_isShip 6 = .ok (.getfield 105, 3) := by decide +kernel
theorem dX11_isShip_9 : decode cX11_isShip 9 = .ok (.iconst 1, 1) := by decide +kernel
theorem dX11_isShip_10 : decode cX11_isShip 10 = .ok (.isub, 1) := by decide +kernel
theorem dX11_isShip_11 : decode cX11_isShip 11 = .ok (.invokestatic 86, 3) := by decide +kernel
theorem dX11_isShip_14 : decode cX11_isShip 14 = .ok (.ireturn, 1) := by decide +kernel
theorem dX11_areShips_0 : decode cX11_areShips 0 = .ok (.iconst 0, 1) := by decide +kernel
theorem dX11_areShips_1 : decode cX11_areShips 1 = .ok (.iload_n 1, 1) := by decide +kernel
theorem dX11_areShips_2 : decode cX11_areShips 2 = .ok (.iconst 1, 1) := by decide +kernel
theorem dX11_areShips_3 : decode cX11_areShips 3 = .ok (.aload_n 0, 1) := by decide +kernel
theorem dX11_areShips_4 : decode cX11_areShips 4 = .ok (.getfield 23, 3) := by decide +kernel
theorem dX11_areShips_7 : decode cX11_areShips 7 = .ok (.getfield 105, 3) := by decide +kernel
theorem dX11_areShips_10 : decode cX11_areShips 10 = .ok (.ishl, 1) := by decide +kernel
theorem dX11_areShips_11 : decode cX11_areShips 11 = .ok (.iconst 1, 1) := by decide +kernel
theorem dX11_areShips_12 : decode cX11_areShips 12 = .ok (.isub, 1) := by decide +kernel
theorem dX11_areShips_13 : decode cX11_areShips 13 = .ok (.invokestatic 86, 3) := by decide +kernel
theorem dX11_areShips_16 : decode cX11_areShips 16 = .ok (.ireturn, 1) := by decide +kernel
theorem dX11_isText_0 : decode cX11_isText 0 = .ok (.iconst 0, 1) := by decide +kernel
theorem dX11_isText_1 : decode cX11_isText 1 = .ok (.iload_n 1, 1) := by decide +kernel
theorem dX11_isText_2 : decode cX11_isText 2 = .ok (.aload_n 0, 1) := by decide +kernel
theorem dX11_isText_3 : decode cX11_isText 3 = .ok (.getfield 12, 3) := by decide +kernel
theorem dX11_isText_6 : decode cX11_isText 6 = .ok (.getfield 119, 3) := by decide +kernel
theorem dX11_isText_9 : decode cX11_isText 9 = .ok (.iconst 1, 1) := by decide +kernel
theorem dX11_isText_10 : decode cX11_isText 10 = .ok (.isub, 1) := by decide +kernel
theorem dX11_isText_11 : decode cX11_isText 11 = .ok (.invokestatic 86, 3) := by decide +kernel
theorem dX11_isText_14 : decode cX11_isText 14 = .ok (.ireturn, 1) := by decide +kernel
theorem dX11_lowest_0 : decode cX11_lowest 0 = .ok (.iconst 0, 1) := by decide +kernel
theorem dX11_lowest_1 : decode cX11_lowest 1 = .ok (.istore_n 1, 1) := by decide +kernel
theorem dX11_lowest_2 : decode cX11_lowest 2 = .ok (.iload_n 1, 1) := by decide +kernel
theorem dX11_lowest_3 : decode cX11_lowest 3 = .ok (.bipush 7, 2) := by decide +kernel
theorem dX11_lowest_5 : decode cX11_lowest 5 = .ok (.if_icmp .ge 19, 3) := by decide +kernel
theorem dX11_lowest_8 : decode cX11_lowest 8 = .ok (.iload_n 0, 1) := by decide +kernel
theorem dX11_lowest_9 : decode cX11_lowest 9 = .ok (.iconst 1, 1) := by decide +kernel
theorem dX11_lowest_10 : decode cX11_lowest 10 = .ok (.iload_n 1, 1) := by decide +kernel
theorem dX11_lowest_11 : decode cX11_lowest 11 = .ok (.ishl, 1) := by decide +kernel
theorem dX11_lowest_12 : decode cX11_lowest 12 = .ok (.iand, 1) := by decide +kernel
theorem dX11_lowest_13 : decode cX11_lowest 13 = .ok (.ifCond .eq 5, 3) := by decide +kernel
theorem dX11_lowest_16 : decode cX11_lowest 16 = .ok (.iload_n 1, 1) := by decide +kernel
theorem dX11_lowest_17 : decode cX11_lowest 17 = .ok (.ireturn, 1) := by decide +kernel
theorem dX11_lowest_18 : decode cX11_lowest 18 = .ok (.iinc 1 1, 3) := by decide +kernel
theorem dX11_lowest_21 : decode cX11_lowest 21 = .ok (.goto (-19), 3) := by decide +kernel
theorem dX11_lowest_24 : decode cX11_lowest 24 = .ok (.iconst (-1), 1) := by decide +kernel
theorem dX11_lowest_25 : decode cX11_lowest 25 = .ok (.ireturn, 1) := by decide +kernel
theorem dX11_chooseRuler_0 : decode cX11_chooseRuler 0 = .ok (.aload_n 0, 1) := by decide +kernel
theorem dX11_chooseRuler_1 : decode cX11_chooseRuler 1 = .ok (.getfield 45, 3) := by decide +kernel
theorem dX11_chooseRuler_4 : decode cX11_chooseRuler 4 = .ok (.aload_n 0, 1) := by decide +kernel
theorem dX11_chooseRuler_5 : decode cX11_chooseRuler 5 = .ok (.aload_n 0, 1) := by decide +kernel
theorem dX11_chooseRuler_6 : decode cX11_chooseRuler 6 = .ok (.getfield 12, 3) := by decide +kernel
theorem dX11_chooseRuler_9 : decode cX11_chooseRuler 9 = .ok (.getfield 134, 3) := by decide +kernel
theorem dX11_chooseRuler_12 : decode cX11_chooseRuler 12 = .ok (.invokevirtual 131, 3) := by decide +kernel
theorem dX11_chooseRuler_15 : decode cX11_chooseRuler 15 = .ok (.ifCond .eq 18, 3) := by decide +kernel
theorem dX11_chooseRuler_18 : decode cX11_chooseRuler 18 = .ok (.aload_n 0, 1) := by decide +kernel
theorem dX11_chooseRuler_19 : decode cX11_chooseRuler 19 = .ok (.getfield 31, 3) := by decide +kernel
theorem dX11_chooseRuler_22 : decode cX11_chooseRuler 22 = .ok (.aload_n 0, 1) := by decide +kernel
theorem dX11_chooseRuler_23 : decode cX11_chooseRuler 23 = .ok (.getfield 12, 3) := by decide +kernel
theorem dX11_chooseRuler_26 : decode cX11_chooseRuler 26 = .ok (.getfield 134, 3) := by decide +kernel
theorem dX11_chooseRuler_29 : decode cX11_chooseRuler 29 = .ok (.aaload, 1) := by decide +kernel
theorem dX11_chooseRuler_30 : decode cX11_chooseRuler 30 = .ok (.goto 10, 3) := by decide +kernel
theorem dX11_chooseRuler_33 : decode cX11_chooseRuler 33 = .ok (.aload_n 0, 1) := by decide +kernel
theorem dX11_chooseRuler_34 : decode cX11_chooseRuler 34 = .ok (.getfield 45, 3) := by decide +kernel
theorem dX11_chooseRuler_37 : decode cX11_chooseRuler 37 = .ok (.getfield 347, 3) := by decide +kernel
theorem dX11_chooseRuler_40 : decode cX11_chooseRuler 40 = .ok (.putfield 351, 3) := by decide +kernel
theorem dX11_chooseRuler_43 : decode cX11_chooseRuler 43 = .ok (.return_, 1) := by decide +kernel
theorem dX11_passHours_0 : decode cX11_passHours 0 = .ok (.iconst 0, 1) := by decide +kernel
theorem dX11_passHours_1 : decode cX11_passHours 1 = .ok (.istore_n 2, 1) := by decide +kernel
theorem dX11_passHours_2 : decode cX11_passHours 2 = .ok (.iconst 0, 1) := by decide +kernel
theorem dX11_passHours_3 : decode cX11_passHours 3 = .ok (.istore_n 3, 1) := by decide +kernel
theorem dX11_passHours_4 : decode cX11_passHours 4 = .ok (.iload_n 3, 1) := by decide +kernel
theorem dX11_passHours_5 : decode cX11_passHours 5 = .ok (.iload_n 1, 1) := by decide +kernel
theorem dX11_passHours_6 : decode cX11_passHours 6 = .ok (.if_icmp .ge 37, 3) := by decide +kernel
theorem dX11_passHours_9 : decode cX11_passHours 9 = .ok (.aload_n 0, 1) := by decide +kernel
theorem dX11_passHours_10 : decode cX11_passHours 10 = .ok (.getfield 12, 3) := by decide +kernel
theorem dX11_passHours_13 : decode cX11_passHours 13 = .ok (.getfield 147, 3) := by decide +kernel
theorem dX11_passHours_16 : decode cX11_passHours 16 = .ok (.aload_n 0, 1) := by decide +kernel
theorem dX11_passHours_17 : decode cX11_passHours 17 = .ok (.getfield 23, 3) := by decide +kernel
theorem dX11_passHours_20 : decode cX11_passHours 20 = .ok (.invokevirtual 151, 3) := by decide +kernel
theorem dX11_passHours_23 : decode cX11_passHours 23 = .ok (.iload_n 2, 1) := by decide +kernel
theorem dX11_passHours_24 : decode cX11_passHours 24 = .ok (.aload_n 0, 1) := by decide +kernel
theorem dX11_passHours_25 : decode cX11_passHours 25 = .ok (.getfield 54, 3) := by decide +kernel
theorem dX11_passHours_28 : decode cX11_passHours 28 = .ok (.aload_n 0, 1) := by decide +kernel
theorem dX11_passHours_29 : decode cX11_passHours 29 = .ok (.getfield 23, 3) := by decide +kernel
theorem dX11_passHours_32 : decode cX11_passHours 32 = .ok (.invokevirtual 234, 3) := by decide +kernel
theorem dX11_passHours_35 : decode cX11_passHours 35 = .ok (.iadd, 1) := by decide +kernel
theorem dX11_passHours_36 : decode cX11_passHours 36 = .ok (.istore_n 2, 1) := by decide +kernel
theorem dX11_passHours_37 : decode cX11_passHours 37 = .ok (.iinc 3 1, 3) := by decide +kernel
theorem dX11_passHours_40 : decode cX11_passHours 40 = .ok (.goto (-36), 3) := by decide +kernel
theorem dX11_passHours_43 : decode cX11_passHours 43 = .ok (.iload_n 2, 1) := by decide +kernel
theorem dX11_passHours_44 : decode cX11_passHours 44 = .ok (.ireturn, 1) := by decide +kernel
theorem dX11_playClause_0 : decode cX11_playClause 0 = .ok (.aload_n 1, 1) := by decide +kernel
theorem dX11_playClause_1 : decode cX11_playClause 1 = .ok (.iload_n 2, 1) := by decide +kernel
theorem dX11_playClause_2 : decode cX11_playClause 2 = .ok (.iconst 0, 1) := by decide +kernel
theorem dX11_playClause_3 : decode cX11_playClause 3 = .ok (.invokevirtual 354, 3) := by decide +kernel
theorem dX11_playClause_6 : decode cX11_playClause 6 = .ok (.istore_n 3, 1) := by decide +kernel
theorem dX11_playClause_7 : decode cX11_playClause 7 = .ok (.aload_n 1, 1) := by decide +kernel
theorem dX11_playClause_8 : decode cX11_playClause 8 = .ok (.iload_n 2, 1) := by decide +kernel
theorem dX11_playClause_9 : decode cX11_playClause 9 = .ok (.iconst 1, 1) := by decide +kernel
theorem dX11_playClause_10 : decode cX11_playClause 10 = .ok (.invokevirtual 354, 3) := by decide +kernel
theorem dX11_playClause_13 : decode cX11_playClause 13 = .ok (.istore 4, 2) := by decide +kernel
theorem dX11_playClause_15 : decode cX11_playClause 15 = .ok (.aload_n 1, 1) := by decide +kernel
theorem dX11_playClause_16 : decode cX11_playClause 16 = .ok (.iload_n 2, 1) := by decide +kernel
theorem dX11_playClause_17 : decode cX11_playClause 17 = .ok (.iconst 2, 1) := by decide +kernel
theorem dX11_playClause_18 : decode cX11_playClause 18 = .ok (.invokevirtual 354, 3) := by decide +kernel
theorem dX11_playClause_21 : decode cX11_playClause 21 = .ok (.istore 5, 2) := by decide +kernel
theorem dX11_playClause_23 : decode cX11_playClause 23 = .ok (.aload_n 1, 1) := by decide +kernel
theorem dX11_playClause_24 : decode cX11_playClause 24 = .ok (.iload_n 2, 1) := by decide +kernel
theorem dX11_playClause_25 : decode cX11_playClause 25 = .ok (.iconst 3, 1) := by decide +kernel
theorem dX11_playClause_26 : decode cX11_playClause 26 = .ok (.invokevirtual 354, 3) := by decide +kernel
theorem dX11_playClause_29 : decode cX11_playClause 29 = .ok (.istore 6, 2) := by decide +kernel
theorem dX11_playClause_31 : decode cX11_playClause 31 = .ok (.aload_n 1, 1) := by decide +kernel
theorem dX11_playClause_32 : decode cX11_playClause 32 = .ok (.getfield 357, 3) := by decide +kernel
theorem dX11_playClause_35 : decode cX11_playClause 35 = .ok (.iload_n 2, 1) := by decide +kernel
theorem dX11_playClause_36 : decode cX11_playClause 36 = .ok (.iaload, 1) := by decide +kernel
theorem dX11_playClause_37 : decode cX11_playClause 37 = .ok (.tableswitch 167 133 139 #[43, 64, 83, 119, 136, 144, 159], 43) := by decide +kernel
theorem dX11_playClause_80 : decode cX11_playClause 80 = .ok (.aload_n 0, 1) := by decide +kernel
theorem dX11_playClause_81 : decode cX11_playClause 81 = .ok (.iload_n 3, 1) := by decide +kernel
theorem dX11_playClause_82 : decode cX11_playClause 82 = .ok (.iload 4, 2) := by decide +kernel
theorem dX11_playClause_84 : decode cX11_playClause 84 = .ok (.iload 5, 2) := by decide +kernel
theorem dX11_playClause_86 : decode cX11_playClause 86 = .ok (.iload 6, 2) := by decide +kernel
theorem dX11_playClause_88 : decode cX11_playClause 88 = .ok (.invokevirtual 360, 3) := by decide +kernel
theorem dX11_playClause_91 : decode cX11_playClause 91 = .ok (.iconst (-1), 1) := by decide +kernel
theorem dX11_playClause_92 : decode cX11_playClause 92 = .ok (.if_icmp .eq 7, 3) := by decide +kernel
theorem dX11_playClause_95 : decode cX11_playClause 95 = .ok (.iconst 1, 1) := by decide +kernel
theorem dX11_playClause_96 : decode cX11_playClause 96 = .ok (.goto 4, 3) := by decide +kernel
theorem dX11_playClause_99 : decode cX11_playClause 99 = .ok (.iconst 0, 1) := by decide +kernel
theorem dX11_playClause_100 : decode cX11_playClause 100 = .ok (.ireturn, 1) := by decide +kernel
theorem dX11_playClause_101 : decode cX11_playClause 101 = .ok (.aload_n 0, 1) := by decide +kernel
theorem dX11_playClause_102 : decode cX11_playClause 102 = .ok (.iload_n 3, 1) := by decide +kernel
theorem dX11_playClause_103 : decode cX11_playClause 103 = .ok (.iload 4, 2) := by decide +kernel
theorem dX11_playClause_105 : decode cX11_playClause 105 = .ok (.iload 5, 2) := by decide +kernel
theorem dX11_playClause_107 : decode cX11_playClause 107 = .ok (.invokevirtual 363, 3) := by decide +kernel
theorem dX11_playClause_110 : decode cX11_playClause 110 = .ok (.iconst (-1), 1) := by decide +kernel
theorem dX11_playClause_111 : decode cX11_playClause 111 = .ok (.if_icmp .eq 7, 3) := by decide +kernel
theorem dX11_playClause_114 : decode cX11_playClause 114 = .ok (.iconst 1, 1) := by decide +kernel
theorem dX11_playClause_115 : decode cX11_playClause 115 = .ok (.goto 4, 3) := by decide +kernel
theorem dX11_playClause_118 : decode cX11_playClause 118 = .ok (.iconst 0, 1) := by decide +kernel
theorem dX11_playClause_119 : decode cX11_playClause 119 = .ok (.ireturn, 1) := by decide +kernel
theorem dX11_playClause_120 : decode cX11_playClause 120 = .ok (.iload_n 3, 1) := by decide +kernel
theorem dX11_playClause_121 : decode cX11_playClause 121 = .ok (.sipush 9999, 3) := by decide +kernel
theorem dX11_playClause_124 : decode cX11_playClause 124 = .ok (.aload_n 0, 1) := by decide +kernel
theorem dX11_playClause_125 : decode cX11_playClause 125 = .ok (.getfield 23, 3) := by decide +kernel
theorem dX11_playClause_128 : decode cX11_playClause 128 = .ok (.getfield 140, 3) := by decide +kernel
theorem dX11_playClause_131 : decode cX11_playClause 131 = .ok (.isub, 1) := by decide +kernel
theorem dX11_playClause_132 : decode cX11_playClause 132 = .ok (.invokestatic 366, 3) := by decide +kernel
theorem dX11_playClause_135 : decode cX11_playClause 135 = .ok (.istore 7, 2) := by decide +kernel
theorem dX11_playClause_137 : decode cX11_playClause 137 = .ok (.aload_n 0, 1) := by decide +kernel
theorem dX11_playClause_138 : decode cX11_playClause 138 = .ok (.iload 7, 2) := by decide +kernel
theorem dX11_playClause_140 : decode cX11_playClause 140 = .ok (.invokevirtual 143, 3) := by decide +kernel
theorem dX11_playClause_143 : decode cX11_playClause 143 = .ok (.pop, 1) := by decide +kernel
theorem dX11_playClause_144 : decode cX11_playClause 144 = .ok (.iload 7, 2) := by decide +kernel
theorem dX11_playClause_146 : decode cX11_playClause 146 = .ok (.iload_n 3, 1) := by decide +kernel
theorem dX11_playClause_147 : decode cX11_playClause 147 = .ok (.if_icmp .ne 7, 3) := by decide +kernel
theorem dX11_playClause_150 : decode cX11_playClause 150 = .ok (.iconst 1, 1) := by decide +kernel
theorem dX11_playClause_151 : decode cX11_playClause 151 = .ok (.goto 4, 3) := by decide +kernel
theorem dX11_playClause_154 : decode cX11_playClause 154 = .ok (.iconst 0, 1) := by decide +kernel
theorem dX11_playClause_155 : decode cX11_playClause 155 = .ok (.ireturn, 1) := by decide +kernel
theorem dX11_playClause_156 : decode cX11_playClause 156 = .ok (.aload_n 0, 1) := by decide +kernel
theorem dX11_playClause_157 : decode cX11_playClause 157 = .ok (.iload_n 3, 1) := by decide +kernel
theorem dX11_playClause_158 : decode cX11_playClause 158 = .ok (.iload 4, 2) := by decide +kernel
theorem dX11_playClause_160 : decode cX11_playClause 160 = .ok (.invokevirtual 371, 3) := by decide +kernel
theorem dX11_playClause_163 : decode cX11_playClause 163 = .ok (.iconst (-1), 1) := by decide +kernel
theorem dX11_playClause_164 : decode cX11_playClause 164 = .ok (.if_icmp .eq 7, 3) := by decide +kernel
theorem dX11_playClause_167 : decode cX11_playClause 167 = .ok (.iconst 1, 1) := by decide +kernel
theorem dX11_playClause_168 : decode cX11_playClause 168 = .ok (.goto 4, 3) := by decide +kernel
theorem dX11_playClause_171 : decode cX11_playClause 171 = .ok (.iconst 0, 1) := by decide +kernel
theorem dX11_playClause_172 : decode cX11_playClause 172 = .ok (.ireturn, 1) := by decide +kernel
theorem dX11_playClause_173 : decode cX11_playClause 173 = .ok (.aload_n 0, 1) := by decide +kernel
theorem dX11_playClause_174 : decode cX11_playClause 174 = .ok (.iload_n 3, 1) := by decide +kernel
theorem dX11_playClause_175 : decode cX11_playClause 175 = .ok (.iload 4, 2) := by decide +kernel
theorem dX11_playClause_177 : decode cX11_playClause 177 = .ok (.invokevirtual 374, 3) := by decide +kernel
theorem dX11_playClause_180 : decode cX11_playClause 180 = .ok (.ireturn, 1) := by decide +kernel
theorem dX11_playClause_181 : decode cX11_playClause 181 = .ok (.aload_n 0, 1) := by decide +kernel
theorem dX11_playClause_182 : decode cX11_playClause 182 = .ok (.iload_n 3, 1) := by decide +kernel
theorem dX11_playClause_183 : decode cX11_playClause 183 = .ok (.invokevirtual 377, 3) := by decide +kernel
theorem dX11_playClause_186 : decode cX11_playClause 186 = .ok (.iconst (-1), 1) := by decide +kernel
theorem dX11_playClause_187 : decode cX11_playClause 187 = .ok (.if_icmp .eq 7, 3) := by decide +kernel
theorem dX11_playClause_190 : decode cX11_playClause 190 = .ok (.iconst 1, 1) := by decide +kernel
theorem dX11_playClause_191 : decode cX11_playClause 191 = .ok (.goto 4, 3) := by decide +kernel
theorem dX11_playClause_194 : decode cX11_playClause 194 = .ok (.iconst 0, 1) := by decide +kernel
theorem dX11_playClause_195 : decode cX11_playClause 195 = .ok (.ireturn, 1) := by decide +kernel
theorem dX11_playClause_196 : decode cX11_playClause 196 = .ok (.aload_n 0, 1) := by decide +kernel
theorem dX11_playClause_197 : decode cX11_playClause 197 = .ok (.iload_n 3, 1) := by decide +kernel
theorem dX11_playClause_198 : decode cX11_playClause 198 = .ok (.iload 4, 2) := by decide +kernel
theorem dX11_playClause_200 : decode cX11_playClause 200 = .ok (.invokevirtual 380, 3) := by decide +kernel
theorem dX11_playClause_203 : decode cX11_playClause 203 = .ok (.ireturn, 1) := by decide +kernel
theorem dX11_playClause_204 : decode cX11_playClause 204 = .ok (.iconst 1, 1) := by decide +kernel
theorem dX11_playClause_205 : decode cX11_playClause 205 = .ok (.ireturn, 1) := by decide +kernel
theorem dX11_doDrawn_0 : decode cX11_doDrawn 0 = .ok (.aload_n 0, 1) := by decide +kernel
theorem dX11_doDrawn_1 : decode cX11_doDrawn 1 = .ok (.getfield 23, 3) := by decide +kernel
theorem dX11_doDrawn_4 : decode cX11_doDrawn 4 = .ok (.getfield 90, 3) := by decide +kernel
theorem dX11_doDrawn_7 : decode cX11_doDrawn 7 = .ok (.ifCond .eq 13, 3) := by decide +kernel
theorem dX11_doDrawn_10 : decode cX11_doDrawn 10 = .ok (.aload_n 0, 1) := by decide +kernel
theorem dX11_doDrawn_11 : decode cX11_doDrawn 11 = .ok (.getfield 23, 3) := by decide +kernel
theorem dX11_doDrawn_14 : decode cX11_doDrawn 14 = .ok (.getfield 105, 3) := by decide +kernel
theorem dX11_doDrawn_17 : decode cX11_doDrawn 17 = .ok (.ifCond .ne 4, 3) := by decide +kernel
theorem dX11_doDrawn_20 : decode cX11_doDrawn 20 = .ok (.return_, 1) := by decide +kernel
theorem dX11_doDrawn_21 : decode cX11_doDrawn 21 = .ok (.iload_n 1, 1) := by decide +kernel
theorem dX11_doDrawn_22 : decode cX11_doDrawn 22 = .ok (.aload_n 0, 1) := by decide +kernel
theorem dX11_doDrawn_23 : decode cX11_doDrawn 23 = .ok (.getfield 23, 3) := by decide +kernel
theorem dX11_doDrawn_26 : decode cX11_doDrawn 26 = .ok (.getfield 90, 3) := by decide +kernel
theorem dX11_doDrawn_29 : decode cX11_doDrawn 29 = .ok (.irem, 1) := by decide +kernel
theorem dX11_doDrawn_30 : decode cX11_doDrawn 30 = .ok (.istore_n 2, 1) := by decide +kernel
theorem dX11_doDrawn_31 : decode cX11_doDrawn 31 = .ok (.iload_n 1, 1) := by decide +kernel
theorem dX11_doDrawn_32 : decode cX11_doDrawn 32 = .ok (.bipush 6, 2) := by decide +kernel
theorem dX11_doDrawn_34 : decode cX11_doDrawn 34 = .ok (.irem, 1) := by decide +kernel
theorem dX11_doDrawn_35 : decode cX11_doDrawn 35 = .ok (.tableswitch 97 0 3 #[29, 47, 63, 76], 29) := by decide +kernel
theorem dX11_doDrawn_64 : decode cX11_doDrawn 64 = .ok (.aload_n 0, 1) := by decide +kernel
theorem dX11_doDrawn_65 : decode cX11_doDrawn 65 = .ok (.getfield 23, 3) := by decide +kernel
theorem dX11_doDrawn_68 : decode cX11_doDrawn 68 = .ok (.iload_n 2, 1) := by decide +kernel
theorem dX11_doDrawn_69 : decode cX11_doDrawn 69 = .ok (.iconst 1, 1) := by decide +kernel
theorem dX11_doDrawn_70 : decode cX11_doDrawn 70 = .ok (.iload_n 1, 1) := by decide +kernel
theorem dX11_doDrawn_71 : decode cX11_doDrawn 71 = .ok (.sipush 200, 3) := by decide +kernel
theorem dX11_doDrawn_74 : decode cX11_doDrawn 74 = .ok (.irem, 1) := by decide +kernel
theorem dX11_doDrawn_75 : decode cX11_doDrawn 75 = .ok (.iadd, 1) := by decide +kernel
theorem dX11_doDrawn_76 : decode cX11_doDrawn 76 = .ok (.invokevirtual 157, 3) := by decide +kernel
theorem dX11_doDrawn_79 : decode cX11_doDrawn 79 = .ok (.goto 78, 3) := by decide +kernel
theorem dX11_doDrawn_82 : decode cX11_doDrawn 82 = .ok (.aload_n 0, 1) := by decide +kernel
theorem dX11_doDrawn_83 : decode cX11_doDrawn 83 = .ok (.getfield 23, 3) := by decide +kernel
theorem dX11_doDrawn_86 : decode cX11_doDrawn 86 = .ok (.getfield 165, 3) := by decide +kernel
theorem dX11_doDrawn_89 : decode cX11_doDrawn 89 = .ok (.iload_n 2, 1) := by decide +kernel
theorem dX11_doDrawn_90 : decode cX11_doDrawn 90 = .ok (.iload_n 1, 1) := by decide +kernel
theorem dX11_doDrawn_91 : decode cX11_doDrawn 91 = .ok (.bipush 30, 2) := by decide +kernel
theorem dX11_doDrawn_93 : decode cX11_doDrawn 93 = .ok (.irem, 1) := by decide +kernel
theorem dX11_doDrawn_94 : decode cX11_doDrawn 94 = .ok (.iastore, 1) := by decide +kernel
theorem dX11_doDrawn_95 : decode cX11_doDrawn 95 = .ok (.goto 62, 3) := by decide +kernel
theorem dX11_doDrawn_98 : decode cX11_doDrawn 98 = .ok (.aload_n 0, 1) := by decide +kernel
theorem dX11_doDrawn_99 : decode cX11_doDrawn 99 = .ok (.getfield 23, 3) := by decide +kernel
theorem dX11_doDrawn_102 : decode cX11_doDrawn 102 = .ok (.getfield 171, 3) := by decide +kernel
theorem dX11_doDrawn_105 : decode cX11_doDrawn 105 = .ok (.iload_n 2, 1) := by decide +kernel
theorem dX11_doDrawn_106 : decode cX11_doDrawn 106 = .ok (.iconst 0, 1) := by decide +kernel
theorem dX11_doDrawn_107 : decode cX11_doDrawn 107 = .ok (.iastore, 1) := by decide +kernel
theorem dX11_doDrawn_108 : decode cX11_doDrawn 108 = .ok (.goto 49, 3) := by decide +kernel
theorem dX11_doDrawn_111 : decode cX11_doDrawn 111 = .ok (.aload_n 0, 1) := by decide +kernel
theorem dX11_doDrawn_112 : decode cX11_doDrawn 112 = .ok (.getfield 23, 3) := by decide +kernel
theorem dX11_doDrawn_115 : decode cX11_doDrawn 115 = .ok (.getfield 177, 3) := by decide +kernel
theorem dX11_doDrawn_118 : decode cX11_doDrawn 118 = .ok (.iload_n 1, 1) := by decide +kernel
theorem dX11_doDrawn_119 : decode cX11_doDrawn 119 = .ok (.aload_n 0, 1) := by decide +kernel
theorem dX11_doDrawn_120 : decode cX11_doDrawn 120 = .ok (.getfield 23, 3) := by decide +kernel
theorem dX11_doDrawn_123 : decode cX11_doDrawn 123 = .ok (.getfield 105, 3) := by decide +kernel
theorem dX11_doDrawn_126 : decode cX11_doDrawn 126 = .ok (.irem, 1) := by decide +kernel
theorem dX11_doDrawn_127 : decode cX11_doDrawn 127 = .ok (.iload_n 2, 1) := by decide +kernel
theorem dX11_doDrawn_128 : decode cX11_doDrawn 128 = .ok (.iastore, 1) := by decide +kernel
theorem dX11_doDrawn_129 : decode cX11_doDrawn 129 = .ok (.goto 28, 3) := by decide +kernel
theorem dX11_doDrawn_132 : decode cX11_doDrawn 132 = .ok (.aload_n 0, 1) := by decide +kernel
theorem dX11_doDrawn_133 : decode cX11_doDrawn 133 = .ok (.getfield 23, 3) := by decide +kernel
theorem dX11_doDrawn_136 : decode cX11_doDrawn 136 = .ok (.getfield 140, 3) := by decide +kernel
theorem dX11_doDrawn_139 : decode cX11_doDrawn 139 = .ok (.sipush 9999, 3) := by decide +kernel
theorem dX11_doDrawn_142 : decode cX11_doDrawn 142 = .ok (.if_icmp .ge 15, 3) := by decide +kernel
theorem dX11_doDrawn_145 : decode cX11_doDrawn 145 = .ok (.aload_n 0, 1) := by decide +kernel
theorem dX11_doDrawn_146 : decode cX11_doDrawn 146 = .ok (.getfield 54, 3) := by decide +kernel
theorem dX11_doDrawn_149 : decode cX11_doDrawn 149 = .ok (.aload_n 0, 1) := by decide +kernel
theorem dX11_doDrawn_150 : decode cX11_doDrawn 150 = .ok (.getfield 23, 3) := by decide +kernel
theorem dX11_doDrawn_153 : decode cX11_doDrawn 153 = .ok (.invokevirtual 234, 3) := by decide +kernel
theorem dX11_doDrawn_156 : decode cX11_doDrawn 156 = .ok (.pop, 1) := by decide +kernel
theorem dX11_doDrawn_157 : decode cX11_doDrawn 157 = .ok (.return_, 1) := by decide +kernel
theorem dX11_lookAhead_0 : decode cX11_lookAhead 0 = .ok (.aload_n 0, 1) := by decide +kernel
theorem dX11_lookAhead_1 : decode cX11_lookAhead 1 = .ok (.getfield 82, 3) := by decide +kernel
theorem dX11_lookAhead_4 : decode cX11_lookAhead 4 = .ok (.aload_n 0, 1) := by decide +kernel
theorem dX11_lookAhead_5 : decode cX11_lookAhead 5 = .ok (.getfield 23, 3) := by decide +kernel
theorem dX11_lookAhead_8 : decode cX11_lookAhead 8 = .ok (.invokevirtual 383, 3) := by decide +kernel
theorem dX11_lookAhead_11 : decode cX11_lookAhead 11 = .ok (.iconst 0, 1) := by decide +kernel
theorem dX11_lookAhead_12 : decode cX11_lookAhead 12 = .ok (.istore_n 2, 1) := by decide +kernel
theorem dX11_lookAhead_13 : decode cX11_lookAhead 13 = .ok (.iload_n 2, 1) := by decide +kernel
theorem dX11_lookAhead_14 : decode cX11_lookAhead 14 = .ok (.iload_n 1, 1) := by decide +kernel
theorem dX11_lookAhead_15 : decode cX11_lookAhead 15 = .ok (.if_icmp .ge 21, 3) := by decide +kernel
theorem dX11_lookAhead_18 : decode cX11_lookAhead 18 = .ok (.aload_n 0, 1) := by decide +kernel
theorem dX11_lookAhead_19 : decode cX11_lookAhead 19 = .ok (.getfield 54, 3) := by decide +kernel
theorem dX11_lookAhead_22 : decode cX11_lookAhead 22 = .ok (.aload_n 0, 1) := by decide +kernel
theorem dX11_lookAhead_23 : decode cX11_lookAhead 23 = .ok (.getfield 82, 3) := by decide +kernel
theorem dX11_lookAhead_26 : decode cX11_lookAhead 26 = .ok (.invokevirtual 234, 3) := by decide +kernel
theorem dX11_lookAhead_29 : decode cX11_lookAhead 29 = .ok (.pop, 1) := by decide +kernel
theorem dX11_lookAhead_30 : decode cX11_lookAhead 30 = .ok (.iinc 2 1, 3) := by decide +kernel
theorem dX11_lookAhead_33 : decode cX11_lookAhead 33 = .ok (.goto (-20), 3) := by decide +kernel
theorem dX11_lookAhead_36 : decode cX11_lookAhead 36 = .ok (.return_, 1) := by decide +kernel
theorem dX11_endOfFall_0 : decode cX11_endOfFall 0 = .ok (.iload_n 2, 1) := by decide +kernel
theorem dX11_endOfFall_1 : decode cX11_endOfFall 1 = .ok (.istore_n 3, 1) := by decide +kernel
theorem dX11_endOfFall_2 : decode cX11_endOfFall 2 = .ok (.iload_n 3, 1) := by decide +kernel
theorem dX11_endOfFall_3 : decode cX11_endOfFall 3 = .ok (.aload_n 0, 1) := by decide +kernel
theorem dX11_endOfFall_4 : decode cX11_endOfFall 4 = .ok (.getfield 23, 3) := by decide +kernel
theorem dX11_endOfFall_7 : decode cX11_endOfFall 7 = .ok (.getfield 90, 3) := by decide +kernel
theorem dX11_endOfFall_10 : decode cX11_endOfFall 10 = .ok (.if_icmp .ge 25, 3) := by decide +kernel
theorem dX11_endOfFall_13 : decode cX11_endOfFall 13 = .ok (.aload_n 0, 1) := by decide +kernel
theorem dX11_endOfFall_14 : decode cX11_endOfFall 14 = .ok (.getfield 45, 3) := by decide +kernel
theorem dX11_endOfFall_17 : decode cX11_endOfFall 17 = .ok (.aload_n 0, 1) := by decide +kernel
theorem dX11_endOfFall_18 : decode cX11_endOfFall 18 = .ok (.getfield 23, 3) := by decide +kernel
theorem dX11_endOfFall_21 : decode cX11_endOfFall 21 = .ok (.iload_n 3, 1) := by decide +kernel
theorem dX11_endOfFall_22 : decode cX11_endOfFall 22 = .ok (.iload_n 1, 1) := by decide +kernel
theorem dX11_endOfFall_23 : decode cX11_endOfFall 23 = .ok (.invokevirtual 385, 3) := by decide +kernel
theorem dX11_endOfFall_26 : decode cX11_endOfFall 26 = .ok (.ifCond .eq 9, 3) := by decide +kernel
theorem dX11_endOfFall_29 : decode cX11_endOfFall 29 = .ok (.iinc 3 1, 3) := by decide +kernel
theorem dX11_endOfFall_32 : decode cX11_endOfFall 32 = .ok (.goto (-30), 3) := by decide +kernel
theorem dX11_endOfFall_35 : decode cX11_endOfFall 35 = .ok (.iload_n 3, 1) := by decide +kernel
theorem dX11_endOfFall_36 : decode cX11_endOfFall 36 = .ok (.ireturn, 1) := by decide +kernel
theorem dJ6_bitCount_0f7a4_0 : decode cJ6_bitCount_0f7a4 0 = .ok (.iload_n 0, 1) := by decide +kernel
theorem dJ6_bitCount_0f7a4_1 : decode cJ6_bitCount_0f7a4 1 = .ok (.iload_n 0, 1) := by decide +kernel
theorem dJ6_bitCount_0f7a4_2 : decode cJ6_bitCount_0f7a4 2 = .ok (.iconst 1, 1) := by decide +kernel
theorem dJ6_bitCount_0f7a4_3 : decode cJ6_bitCount_0f7a4 3 = .ok (.iushr, 1) := by decide +kernel
theorem dJ6_bitCount_0f7a4_4 : decode cJ6_bitCount_0f7a4 4 = .ok (.ldc_w 265, 3) := by decide +kernel
theorem dJ6_bitCount_0f7a4_7 : decode cJ6_bitCount_0f7a4 7 = .ok (.iand, 1) := by decide +kernel
theorem dJ6_bitCount_0f7a4_8 : decode cJ6_bitCount_0f7a4 8 = .ok (.isub, 1) := by decide +kernel
theorem dJ6_bitCount_0f7a4_9 : decode cJ6_bitCount_0f7a4 9 = .ok (.istore_n 0, 1) := by decide +kernel
theorem dJ6_bitCount_0f7a4_10 : decode cJ6_bitCount_0f7a4 10 = .ok (.iload_n 0, 1) := by decide +kernel
theorem dJ6_bitCount_0f7a4_11 : decode cJ6_bitCount_0f7a4 11 = .ok (.ldc_w 266, 3) := by decide +kernel
theorem dJ6_bitCount_0f7a4_14 : decode cJ6_bitCount_0f7a4 14 = .ok (.iand, 1) := by decide +kernel
theorem dJ6_bitCount_0f7a4_15 : decode cJ6_bitCount_0f7a4 15 = .ok (.iload_n 0, 1) := by decide +kernel
theorem dJ6_bitCount_0f7a4_16 : decode cJ6_bitCount_0f7a4 16 = .ok (.iconst 2, 1) := by decide +kernel
theorem dJ6_bitCount_0f7a4_17 : decode cJ6_bitCount_0f7a4 17 = .ok (.iushr, 1) := by decide +kernel
theorem dJ6_bitCount_0f7a4_18 : decode cJ6_bitCount_0f7a4 18 = .ok (.ldc_w 266, 3) := by decide +kernel
theorem dJ6_bitCount_0f7a4_21 : decode cJ6_bitCount_0f7a4 21 = .ok (.iand, 1) := by decide +kernel
theorem dJ6_bitCount_0f7a4_22 : decode cJ6_bitCount_0f7a4 22 = .ok (.iadd, 1) := by decide +kernel
theorem dJ6_bitCount_0f7a4_23 : decode cJ6_bitCount_0f7a4 23 = .ok (.istore_n 0, 1) := by decide +kernel
theorem dJ6_bitCount_0f7a4_24 : decode cJ6_bitCount_0f7a4 24 = .ok (.iload_n 0, 1) := by decide +kernel
theorem dJ6_bitCount_0f7a4_25 : decode cJ6_bitCount_0f7a4 25 = .ok (.iload_n 0, 1) := by decide +kernel
theorem dJ6_bitCount_0f7a4_26 : decode cJ6_bitCount_0f7a4 26 = .ok (.iconst 4, 1) := by decide +kernel
theorem dJ6_bitCount_0f7a4_27 : decode cJ6_bitCount_0f7a4 27 = .ok (.iushr, 1) := by decide +kernel
theorem dJ6_bitCount_0f7a4_28 : decode cJ6_bitCount_0f7a4 28 = .ok (.iadd, 1) := by decide +kernel
theorem dJ6_bitCount_0f7a4_29 : decode cJ6_bitCount_0f7a4 29 = .ok (.ldc_w 267, 3) := by decide +kernel
theorem dJ6_bitCount_0f7a4_32 : decode cJ6_bitCount_0f7a4 32 = .ok (.iand, 1) := by decide +kernel
theorem dJ6_bitCount_0f7a4_33 : decode cJ6_bitCount_0f7a4 33 = .ok (.istore_n 0, 1) := by decide +kernel
theorem dJ6_bitCount_0f7a4_34 : decode cJ6_bitCount_0f7a4 34 = .ok (.iload_n 0, 1) := by decide +kernel
theorem dJ6_bitCount_0f7a4_35 : decode cJ6_bitCount_0f7a4 35 = .ok (.iload_n 0, 1) := by decide +kernel
theorem dJ6_bitCount_0f7a4_36 : decode cJ6_bitCount_0f7a4 36 = .ok (.bipush 8, 2) := by decide +kernel
theorem dJ6_bitCount_0f7a4_38 : decode cJ6_bitCount_0f7a4 38 = .ok (.iushr, 1) := by decide +kernel
theorem dJ6_bitCount_0f7a4_39 : decode cJ6_bitCount_0f7a4 39 = .ok (.iadd, 1) := by decide +kernel
theorem dJ6_bitCount_0f7a4_40 : decode cJ6_bitCount_0f7a4 40 = .ok (.istore_n 0, 1) := by decide +kernel
theorem dJ6_bitCount_0f7a4_41 : decode cJ6_bitCount_0f7a4 41 = .ok (.iload_n 0, 1) := by decide +kernel
theorem dJ6_bitCount_0f7a4_42 : decode cJ6_bitCount_0f7a4 42 = .ok (.iload_n 0, 1) := by decide +kernel
theorem dJ6_bitCount_0f7a4_43 : decode cJ6_bitCount_0f7a4 43 = .ok (.bipush 16, 2) := by decide +kernel
theorem dJ6_bitCount_0f7a4_45 : decode cJ6_bitCount_0f7a4 45 = .ok (.iushr, 1) := by decide +kernel
theorem dJ6_bitCount_0f7a4_46 : decode cJ6_bitCount_0f7a4 46 = .ok (.iadd, 1) := by decide +kernel
theorem dJ6_bitCount_0f7a4_47 : decode cJ6_bitCount_0f7a4 47 = .ok (.istore_n 0, 1) := by decide +kernel
theorem dJ6_bitCount_0f7a4_48 : decode cJ6_bitCount_0f7a4 48 = .ok (.iload_n 0, 1) := by decide +kernel
theorem dJ6_bitCount_0f7a4_49 : decode cJ6_bitCount_0f7a4 49 = .ok (.bipush 63, 2) := by decide +kernel
theorem dJ6_bitCount_0f7a4_51 : decode cJ6_bitCount_0f7a4 51 = .ok (.iand, 1) := by decide +kernel
theorem dJ6_bitCount_0f7a4_52 : decode cJ6_bitCount_0f7a4 52 = .ok (.ireturn, 1) := by decide +kernel
theorem dJ9_max_7cf53_0 : decode cJ9_max_7cf53 0 = .ok (.iload_n 0, 1) := by decide +kernel
theorem dJ9_max_7cf53_1 : decode cJ9_max_7cf53 1 = .ok (.iload_n 1, 1) := by decide +kernel
theorem dJ9_max_7cf53_2 : decode cJ9_max_7cf53 2 = .ok (.if_icmp .lt 7, 3) := by decide +kernel
theorem dJ9_max_7cf53_5 : decode cJ9_max_7cf53 5 = .ok (.iload_n 0, 1) := by decide +kernel
theorem dJ9_max_7cf53_6 : decode cJ9_max_7cf53 6 = .ok (.goto 4, 3) := by decide +kernel
theorem dJ9_max_7cf53_9 : decode cJ9_max_7cf53 9 = .ok (.iload_n 1, 1) := by decide +kernel
theorem dJ9_max_7cf53_10 : decode cJ9_max_7cf53 10 = .ok (.ireturn, 1) := by decide +kernel
theorem dJ9_min_7cf53_0 : decode cJ9_min_7cf53 0 = .ok (.iload_n 0, 1) := by decide +kernel
theorem dJ9_min_7cf53_1 : decode cJ9_min_7cf53 1 = .ok (.iload_n 1, 1) := by decide +kernel
theorem dJ9_min_7cf53_2 : decode cJ9_min_7cf53 2 = .ok (.if_icmp .gt 7, 3) := by decide +kernel
theorem dJ9_min_7cf53_5 : decode cJ9_min_7cf53 5 = .ok (.iload_n 0, 1) := by decide +kernel
theorem dJ9_min_7cf53_6 : decode cJ9_min_7cf53 6 = .ok (.goto 4, 3) := by decide +kernel
theorem dJ9_min_7cf53_9 : decode cJ9_min_7cf53 9 = .ok (.iload_n 1, 1) := by decide +kernel
theorem dJ9_min_7cf53_10 : decode cJ9_min_7cf53 10 = .ok (.ireturn, 1) := by decide +kernel
theorem dJ0_length_8abf5_0 : decode cJ0_length_8abf5 0 = .ok (.aload_n 0, 1) := by decide +kernel
theorem dJ0_length_8abf5_1 : decode cJ0_length_8abf5 1 = .ok (.getfield 9, 3) := by decide +kernel
theorem dJ0_length_8abf5_4 : decode cJ0_length_8abf5 4 = .ok (.arraylength, 1) := by decide +kernel
theorem dJ0_length_8abf5_5 : decode cJ0_length_8abf5 5 = .ok (.aload_n 0, 1) := by decide +kernel
theorem dJ0_length_8abf5_6 : decode cJ0_length_8abf5 6 = .ok (.invokevirtual 335, 3) := by decide +kernel
theorem dJ0_length_8abf5_9 : decode cJ0_length_8abf5 9 = .ok (.ishr, 1) := by decide +kernel
theorem dJ0_length_8abf5_10 : decode cJ0_length_8abf5 10 = .ok (.ireturn, 1) := by decide +kernel
theorem dJ0_charAt_5068e_0 : decode cJ0_charAt_5068e 0 = .ok (.aload_n 0, 1) := by decide +kernel
theorem dJ0_charAt_5068e_1 : decode cJ0_charAt_5068e 1 = .ok (.invokevirtual 492, 3) := by decide +kernel
theorem dJ0_charAt_5068e_4 : decode cJ0_charAt_5068e 4 = .ok (.ifCond .eq 12, 3) := by decide +kernel
theorem dJ0_charAt_5068e_7 : decode cJ0_charAt_5068e 7 = .ok (.aload_n 0, 1) := by decide +kernel
theorem dJ0_charAt_5068e_8 : decode cJ0_charAt_5068e 8 = .ok (.getfield 9, 3) := by decide +kernel
theorem dJ0_charAt_5068e_11 : decode cJ0_charAt_5068e 11 = .ok (.iload_n 1, 1) := by decide +kernel
theorem dJ0_charAt_5068e_12 : decode cJ0_charAt_5068e 12 = .ok (.invokestatic 495, 3) := by decide +kernel
theorem dJ0_charAt_5068e_15 : decode cJ0_charAt_5068e 15 = .ok (.ireturn, 1) := by decide +kernel
theorem dJ0_charAt_5068e_16 : decode cJ0_charAt_5068e 16 = .ok (.aload_n 0, 1) := by decide +kernel
theorem dJ0_charAt_5068e_17 : decode cJ0_charAt_5068e 17 = .ok (.getfield 9, 3) := by decide +kernel
theorem dJ0_charAt_5068e_20 : decode cJ0_charAt_5068e 20 = .ok (.iload_n 1, 1) := by decide +kernel
theorem dJ0_charAt_5068e_21 : decode cJ0_charAt_5068e 21 = .ok (.invokestatic 498, 3) := by decide +kernel
theorem dJ0_charAt_5068e_24 : decode cJ0_charAt_5068e 24 = .ok (.ireturn, 1) := by decide +kernel
theorem dJ0_coder_7d493_0 : decode cJ0_coder_7d493 0 = .ok (.getstatic 38, 3) := by decide +kernel
theorem dJ0_coder_7d493_3 : decode cJ0_coder_7d493 3 = .ok (.ifCond .eq 10, 3) := by decide +kernel
theorem dJ0_coder_7d493_6 : decode cJ0_coder_7d493 6 = .ok (.aload_n 0, 1) := by decide +kernel
theorem dJ0_coder_7d493_7 : decode cJ0_coder_7d493 7 = .ok (.getfield 15, 3) := by decide +kernel
theorem dJ0_coder_7d493_10 : decode cJ0_coder_7d493 10 = .ok (.goto 4, 3) := by decide +kernel
theorem dJ0_coder_7d493_13 : decode cJ0_coder_7d493 13 = .ok (.iconst 1, 1) := by decide +kernel
theorem dJ0_coder_7d493_14 : decode cJ0_coder_7d493 14 = .ok (.ireturn, 1) := by decide +kernel
theorem dJ0_isLatin1_aae02_0 : decode cJ0_isLatin1_aae02 0 = .ok (.getstatic 38, 3) := by decide +kernel
theorem dJ0_isLatin1_aae02_3 : decode cJ0_isLatin1_aae02 3 = .ok (.ifCond .eq 14, 3) := by decide +kernel
theorem dJ0_isLatin1_aae02_6 : decode cJ0_isLatin1_aae02 6 = .ok (.aload_n 0, 1) := by decide +kernel
theorem dJ0_isLatin1_aae02_7 : decode cJ0_isLatin1_aae02 7 = .ok (.getfield 15, 3) := by decide +kernel
theorem dJ0_isLatin1_aae02_10 : decode cJ0_isLatin1_aae02 10 = .ok (.ifCond .ne 7, 3) := by decide +kernel
theorem dJ0_isLatin1_aae02_13 : decode cJ0_isLatin1_aae02 13 = .ok (.iconst 1, 1) := by decide +kernel
theorem dJ0_isLatin1_aae02_14 : decode cJ0_isLatin1_aae02 14 = .ok (.goto 4, 3) := by decide +kernel
theorem dJ0_isLatin1_aae02_17 : decode cJ0_isLatin1_aae02 17 = .ok (.iconst 0, 1) := by decide +kernel
theorem dJ0_isLatin1_aae02_18 : decode cJ0_isLatin1_aae02 18 = .ok (.ireturn, 1) := by decide +kernel
theorem dJ0_checkIndex_df160_0 : decode cJ0_checkIndex_df160 0 = .ok (.iload_n 0, 1) := by decide +kernel
theorem dJ0_checkIndex_df160_1 : decode cJ0_checkIndex_df160 1 = .ok (.iload_n 1, 1) := by decide +kernel
theorem dJ0_checkIndex_df160_2 : decode cJ0_checkIndex_df160 2 = .ok (.getstatic 1053, 3) := by decide +kernel
theorem dJ0_checkIndex_df160_5 : decode cJ0_checkIndex_df160 5 = .ok (.invokestatic 1059, 3) := by decide +kernel
theorem dJ0_checkIndex_df160_8 : decode cJ0_checkIndex_df160 8 = .ok (.pop, 1) := by decide +kernel
theorem dJ0_checkIndex_df160_9 : decode cJ0_checkIndex_df160 9 = .ok (.return_, 1) := by decide +kernel
theorem dJ1_charAt_3b067_0 : decode cJ1_charAt_3b067 0 = .ok (.iload_n 1, 1) := by decide +kernel
theorem dJ1_charAt_3b067_1 : decode cJ1_charAt_3b067 1 = .ok (.aload_n 0, 1) := by decide +kernel
theorem dJ1_charAt_3b067_2 : decode cJ1_charAt_3b067 2 = .ok (.arraylength, 1) := by decide +kernel
theorem dJ1_charAt_3b067_3 : decode cJ1_charAt_3b067 3 = .ok (.invokestatic 9, 3) := by decide +kernel
theorem dJ1_charAt_3b067_6 : decode cJ1_charAt_3b067 6 = .ok (.aload_n 0, 1) := by decide +kernel
theorem dJ1_charAt_3b067_7 : decode cJ1_charAt_3b067 7 = .ok (.iload_n 1, 1) := by decide +kernel
theorem dJ1_charAt_3b067_8 : decode cJ1_charAt_3b067 8 = .ok (.baload, 1) := by decide +kernel
theorem dJ1_charAt_3b067_9 : decode cJ1_charAt_3b067 9 = .ok (.sipush 255, 3) := by decide +kernel
theorem dJ1_charAt_3b067_12 : decode cJ1_charAt_3b067 12 = .ok (.iand, 1) := by decide +kernel
theorem dJ1_charAt_3b067_13 : decode cJ1_charAt_3b067 13 = .ok (.i2c, 1) := by decide +kernel
theorem dJ1_charAt_3b067_14 : decode cJ1_charAt_3b067 14 = .ok (.ireturn, 1) := by decide +kernel
theorem dJ2_getChar_3b067_0 : decode cJ2_getChar_3b067 0 = .ok (.getstatic 44, 3) := by decide +kernel
theorem dJ2_getChar_3b067_3 : decode cJ2_getChar_3b067 3 = .ok (.ifCond .ne 25, 3) := by decide +kernel
theorem dJ2_getChar_3b067_6 : decode cJ2_getChar_3b067 6 = .ok (.iload_n 1, 1) := by decide +kernel
theorem dJ2_getChar_3b067_7 : decode cJ2_getChar_3b067 7 = .ok (.ifCond .lt 11, 3) := by decide +kernel
theorem dJ2_getChar_3b067_10 : decode cJ2_getChar_3b067 10 = .ok (.iload_n 1, 1) := by decide +kernel
theorem dJ2_getChar_3b067_11 : decode cJ2_getChar_3b067 11 = .ok (.aload_n 0, 1) := by decide +kernel
theorem dJ2_getChar_3b067_12 : decode cJ2_getChar_3b067 12 = .ok (.invokestatic 48, 3) := by decide +kernel
theorem dJ2_getChar_3b067_15 : decode cJ2_getChar_3b067 15 = .ok (.if_icmp .lt 13, 3) := by decide +kernel
theorem dJ2_getChar_3b067_18 : decode cJ2_getChar_3b067 18 = .ok (.new 52, 3) := by decide +kernel
theorem dJ2_getChar_3b067_21 : decode cJ2_getChar_3b067 21 = .ok (.dup, 1) := by decide +kernel
theorem dJ2_getChar_3b067_22 : decode cJ2_getChar_3b067 22 = .ok (.ldc 54, 2) := by decide +kernel
theorem dJ2_getChar_3b067_24 : decode cJ2_getChar_3b067 24 = .ok (.invokespecial 56, 3) := by decide +kernel
theorem dJ2_getChar_3b067_27 : decode cJ2_getChar_3b067 27 = .ok (.athrow, 1) := by decide +kernel
theorem dJ2_getChar_3b067_28 : decode cJ2_getChar_3b067 28 = .ok (.iload_n 1, 1) := by decide +kernel
theorem dJ2_getChar_3b067_29 : decode cJ2_getChar_3b067 29 = .ok (.iconst 1, 1) := by decide +kernel
theorem dJ2_getChar_3b067_30 : decode cJ2_getChar_3b067 30 = .ok (.ishl, 1) := by decide +kernel
theorem dJ2_getChar_3b067_31 : decode cJ2_getChar_3b067 31 = .ok (.istore_n 1, 1) := by decide +kernel
theorem dJ2_getChar_3b067_32 : decode cJ2_getChar_3b067 32 = .ok (.aload_n 0, 1) := by decide +kernel
theorem dJ2_getChar_3b067_33 : decode cJ2_getChar_3b067 33 = .ok (.iload_n 1, 1) := by decide +kernel
theorem dJ2_getChar_3b067_34 : decode cJ2_getChar_3b067 34 = .ok (.iinc 1 1, 3) := by decide +kernel
theorem dJ2_getChar_3b067_37 : decode cJ2_getChar_3b067 37 = .ok (.baload, 1) := by decide +kernel
theorem dJ2_getChar_3b067_38 : decode cJ2_getChar_3b067 38 = .ok (.sipush 255, 3) := by decide +kernel
theorem dJ2_getChar_3b067_41 : decode cJ2_getChar_3b067 41 = .ok (.iand, 1) := by decide +kernel
theorem dJ2_getChar_3b067_42 : decode cJ2_getChar_3b067 42 = .ok (.getstatic 59, 3) := by decide +kernel
theorem dJ2_getChar_3b067_45 : decode cJ2_getChar_3b067 45 = .ok (.ishl, 1) := by decide +kernel
theorem dJ2_getChar_3b067_46 : decode cJ2_getChar_3b067 46 = .ok (.aload_n 0, 1) := by decide +kernel
theorem dJ2_getChar_3b067_47 : decode cJ2_getChar_3b067 47 = .ok (.iload_n 1, 1) := by decide +kernel
theorem dJ2_getChar_3b067_48 : decode cJ2_getChar_3b067 48 = .ok (.baload, 1) := by decide +kernel
theorem dJ2_getChar_3b067_49 : decode cJ2_getChar_3b067 49 = .ok (.sipush 255, 3) := by decide +kernel
theorem dJ2_getChar_3b067_52 : decode cJ2_getChar_3b067 52 = .ok (.iand, 1) := by decide +kernel
theorem dJ2_getChar_3b067_53 : decode cJ2_getChar_3b067 53 = .ok (.getstatic 63, 3) := by decide +kernel
theorem dJ2_getChar_3b067_56 : decode cJ2_getChar_3b067 56 = .ok (.ishl, 1) := by decide +kernel
theorem dJ2_getChar_3b067_57 : decode cJ2_getChar_3b067 57 = .ok (.ior, 1) := by decide +kernel
theorem dJ2_getChar_3b067_58 : decode cJ2_getChar_3b067 58 = .ok (.i2c, 1) := by decide +kernel
theorem dJ2_getChar_3b067_59 : decode cJ2_getChar_3b067 59 = .ok (.ireturn, 1) := by decide +kernel
theorem dJ2_length_9d52b_0 : decode cJ2_length_9d52b 0 = .ok (.aload_n 0, 1) := by decide +kernel
theorem dJ2_length_9d52b_1 : decode cJ2_length_9d52b 1 = .ok (.arraylength, 1) := by decide +kernel
theorem dJ2_length_9d52b_2 : decode cJ2_length_9d52b 2 = .ok (.iconst 1, 1) := by decide +kernel
theorem dJ2_length_9d52b_3 : decode cJ2_length_9d52b 3 = .ok (.ishr, 1) := by decide +kernel
theorem dJ2_length_9d52b_4 : decode cJ2_length_9d52b 4 = .ok (.ireturn, 1) := by decide +kernel
theorem dJ2_charAt_3b067_0 : decode cJ2_charAt_3b067 0 = .ok (.iload_n 1, 1) := by decide +kernel
theorem dJ2_charAt_3b067_1 : decode cJ2_charAt_3b067 1 = .ok (.aload_n 0, 1) := by decide +kernel
theorem dJ2_charAt_3b067_2 : decode cJ2_charAt_3b067 2 = .ok (.invokestatic 67, 3) := by decide +kernel
theorem dJ2_charAt_3b067_5 : decode cJ2_charAt_3b067 5 = .ok (.aload_n 0, 1) := by decide +kernel
theorem dJ2_charAt_3b067_6 : decode cJ2_charAt_3b067 6 = .ok (.iload_n 1, 1) := by decide +kernel
theorem dJ2_charAt_3b067_7 : decode cJ2_charAt_3b067 7 = .ok (.invokestatic 71, 3) := by decide +kernel
theorem dJ2_charAt_3b067_10 : decode cJ2_charAt_3b067 10 = .ok (.ireturn, 1) := by decide +kernel
theorem dJ2_checkIndex_2214a_0 : decode cJ2_checkIndex_2214a 0 = .ok (.iload_n 0, 1) := by decide +kernel
theorem dJ2_checkIndex_2214a_1 : decode cJ2_checkIndex_2214a 1 = .ok (.aload_n 1, 1) := by decide +kernel
theorem dJ2_checkIndex_2214a_2 : decode cJ2_checkIndex_2214a 2 = .ok (.invokestatic 48, 3) := by decide +kernel
theorem dJ2_checkIndex_2214a_5 : decode cJ2_checkIndex_2214a 5 = .ok (.invokestatic 414, 3) := by decide +kernel
theorem dJ2_checkIndex_2214a_8 : decode cJ2_checkIndex_2214a 8 = .ok (.return_, 1) := by decide +kernel
theorem dJ3_checkIndex_8e157_0 : decode cJ3_checkIndex_8e157 0 = .ok (.iload_n 0, 1) := by decide +kernel
theorem dJ3_checkIndex_8e157_1 : decode cJ3_checkIndex_8e157 1 = .ok (.ifCond .lt 8, 3) := by decide +kernel
theorem dJ3_checkIndex_8e157_4 : decode cJ3_checkIndex_8e157 4 = .ok (.iload_n 0, 1) := by decide +kernel
theorem dJ3_checkIndex_8e157_5 : decode cJ3_checkIndex_8e157 5 = .ok (.iload_n 1, 1) := by decide +kernel
theorem dJ3_checkIndex_8e157_6 : decode cJ3_checkIndex_8e157 6 = .ok (.if_icmp .lt 10, 3) := by decide +kernel
theorem dJ3_checkIndex_8e157_9 : decode cJ3_checkIndex_8e157 9 = .ok (.aload_n 2, 1) := by decide +kernel
theorem dJ3_checkIndex_8e157_10 : decode cJ3_checkIndex_8e157 10 = .ok (.iload_n 0, 1) := by decide +kernel
theorem dJ3_checkIndex_8e157_11 : decode cJ3_checkIndex_8e157 11 = .ok (.iload_n 1, 1) := by decide +kernel
theorem dJ3_checkIndex_8e157_12 : decode cJ3_checkIndex_8e157 12 = .ok (.invokestatic 95, 3) := by decide +kernel
theorem dJ3_checkIndex_8e157_15 : decode cJ3_checkIndex_8e157 15 = .ok (.athrow, 1) := by decide +kernel
theorem dJ3_checkIndex_8e157_16 : decode cJ3_checkIndex_8e157 16 = .ok (.iload_n 0, 1) := by decide +kernel
theorem dJ3_checkIndex_8e157_17 : decode cJ3_checkIndex_8e157 17 = .ok (.ireturn, 1) := by decide +kernel
