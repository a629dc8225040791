theorem dX0_init_0 : decode cX0_init 0 = .ok (.aload_n 0, 1) := by decide +kernel
theorem dX0_init_1 : decode cX0_init 1 = .ok (.invokespecial 3, 3) := by decide +kernel
theorem dX0_init_4 : decode cX0_init 4 = .ok (.aload_n 0, 1) := by decide +kernel
theorem dX0_init_5 : decode cX0_init 5 = .ok (.bipush 6, 2) := by decide +kernel
theorem dX0_init_7 : decode cX0_init 7 = .ok (.newarray .int, 2) := by decide +kernel
theorem dX0_init_9 : decode cX0_init 9 = .ok (.putfield 9, 3) := by decide +kernel
theorem dX0_init_12 : decode cX0_init 12 = .ok (.return_, 1) := by decide +kernel
theorem dX0_holds_0 : decode cX0_holds 0 = .ok (.aload_n 0, 1) := by decide +kernel
theorem dX0_holds_1 : decode cX0_holds 1 = .ok (.getfield 15, 3) := by decide +kernel
theorem dX0_holds_4 : decode cX0_holds 4 = .ok (.iload_n 1, 1) := by decide +kernel
theorem dX0_holds_5 : decode cX0_holds 5 = .ok (.ishr, 1) := by decide +kernel
theorem dX0_holds_6 : decode cX0_holds 6 = .ok (.iconst 1, 1) := by decide +kernel
theorem dX0_holds_7 : decode cX0_holds 7 = .ok (.iand, 1) := by decide +kernel
theorem dX0_holds_8 : decode cX0_holds 8 = .ok (.iconst 1, 1) := by decide +kernel
theorem dX0_holds_9 : decode cX0_holds 9 = .ok (.if_icmp .ne 7, 3) := by decide +kernel
theorem dX0_holds_12 : decode cX0_holds 12 = .ok (.iconst 1, 1) := by decide +kernel
theorem dX0_holds_13 : decode cX0_holds 13 = .ok (.goto 4, 3) := by decide +kernel
theorem dX0_holds_16 : decode cX0_holds 16 = .ok (.iconst 0, 1) := by decide +kernel
theorem dX0_holds_17 : decode cX0_holds 17 = .ok (.ireturn, 1) := by decide +kernel
theorem dX0_put_0 : decode cX0_put 0 = .ok (.iload_n 1, 1) := by decide +kernel
theorem dX0_put_1 : decode cX0_put 1 = .ok (.invokestatic 19, 3) := by decide +kernel
theorem dX0_put_4 : decode cX0_put 4 = .ok (.ifCond .eq 22, 3) := by decide +kernel
theorem dX0_put_7 : decode cX0_put 7 = .ok (.aload_n 0, 1) := by decide +kernel
theorem dX0_put_8 : decode cX0_put 8 = .ok (.dup, 1) := by decide +kernel
theorem dX0_put_9 : decode cX0_put 9 = .ok (.getfield 15, 3) := by decide +kernel
theorem dX0_put_12 : decode cX0_put 12 = .ok (.iconst 1, 1) := by decide +kernel
theorem dX0_put_13 : decode cX0_put 13 = .ok (.iload_n 1, 1) := by decide +kernel
theorem dX0_put_14 : decode cX0_put 14 = .ok (.ishl, 1) := by decide +kernel
theorem dX0_put_15 : decode cX0_put 15 = .ok (.ior, 1) := by decide +kernel
theorem dX0_put_16 : decode cX0_put 16 = .ok (.putfield 15, 3) := by decide +kernel
theorem dX0_put_19 : decode cX0_put 19 = .ok (.aload_n 0, 1) := by decide +kernel
theorem dX0_put_20 : decode cX0_put 20 = .ok (.getfield 9, 3) := by decide +kernel
theorem dX0_put_23 : decode cX0_put 23 = .ok (.iload_n 1, 1) := by decide +kernel
theorem dX0_put_24 : decode cX0_put 24 = .ok (.iload_n 2, 1) := by decide +kernel
theorem dX0_put_25 : decode cX0_put 25 = .ok (.iastore, 1) := by decide +kernel
theorem dX0_put_26 : decode cX0_put 26 = .ok (.return_, 1) := by decide +kernel
theorem dX0_copyFrom_0 : decode cX0_copyFrom 0 = .ok (.aload_n 0, 1) := by decide +kernel
theorem dX0_copyFrom_1 : decode cX0_copyFrom 1 = .ok (.aload_n 1, 1) := by decide +kernel
theorem dX0_copyFrom_2 : decode cX0_copyFrom 2 = .ok (.getfield 15, 3) := by decide +kernel
theorem dX0_copyFrom_5 : decode cX0_copyFrom 5 = .ok (.putfield 15, 3) := by decide +kernel
theorem dX0_copyFrom_8 : decode cX0_copyFrom 8 = .ok (.iconst 0, 1) := by decide +kernel
theorem dX0_copyFrom_9 : decode cX0_copyFrom 9 = .ok (.istore_n 2, 1) := by decide +kernel
theorem dX0_copyFrom_10 : decode cX0_copyFrom 10 = .ok (.iload_n 2, 1) := by decide +kernel
theorem dX0_copyFrom_11 : decode cX0_copyFrom 11 = .ok (.bipush 6, 2) := by decide +kernel
theorem dX0_copyFrom_13 : decode cX0_copyFrom 13 = .ok (.if_icmp .ge 21, 3) := by decide +kernel
theorem dX0_copyFrom_16 : decode cX0_copyFrom 16 = .ok (.aload_n 0, 1) := by decide +kernel
theorem dX0_copyFrom_17 : decode cX0_copyFrom 17 = .ok (.getfield 9, 3) := by decide +kernel
theorem dX0_copyFrom_20 : decode cX0_copyFrom 20 = .ok (.iload_n 2, 1) := by decide +kernel
theorem dX0_copyFrom_21 : decode cX0_copyFrom 21 = .ok (.aload_n 1, 1) := by decide +kernel
theorem dX0_copyFrom_22 : decode cX0_copyFrom 22 = .ok (.getfield 9, 3) := by decide +kernel
theorem dX0_copyFrom_25 : decode cX0_copyFrom 25 = .ok (.iload_n 2, 1) := by decide +kernel
theorem dX0_copyFrom_26 : decode cX0_copyFrom 26 = .ok (.iaload, 1) := by decide +kernel
theorem dX0_copyFrom_27 : decode cX0_copyFrom 27 = .ok (.iastore, 1) := by decide +kernel
theorem dX0_copyFrom_28 : decode cX0_copyFrom 28 = .ok (.iinc 2 1, 3) := by decide +kernel
theorem dX0_copyFrom_31 : decode cX0_copyFrom 31 = .ok (.goto (-21), 3) := by decide +kernel
theorem dX0_copyFrom_34 : decode cX0_copyFrom 34 = .ok (.return_, 1) := by decide +kernel
theorem dX1_init_0 : decode cX1_init 0 = .ok (.aload_n 0, 1) := by decide +kernel
theorem dX1_init_1 : decode cX1_init 1 = .ok (.invokespecial 3, 3) := by decide +kernel
theorem dX1_init_4 : decode cX1_init 4 = .ok (.aload_n 0, 1) := by decide +kernel
theorem dX1_init_5 : decode cX1_init 5 = .ok (.bipush 14, 2) := by decide +kernel
theorem dX1_init_7 : decode cX1_init 7 = .ok (.anewarray 9, 3) := by decide +kernel
theorem dX1_init_10 : decode cX1_init 10 = .ok (.putfield 11, 3) := by decide +kernel
theorem dX1_init_13 : decode cX1_init 13 = .ok (.iconst 0, 1) := by decide +kernel
theorem dX1_init_14 : decode cX1_init 14 = .ok (.istore_n 2, 1) := by decide +kernel
theorem dX1_init_15 : decode cX1_init 15 = .ok (.iload_n 2, 1) := by decide +kernel
theorem dX1_init_16 : decode cX1_init 16 = .ok (.bipush 14, 2) := by decide +kernel
theorem dX1_init_18 : decode cX1_init 18 = .ok (.if_icmp .ge 23, 3) := by decide +kernel
theorem dX1_init_21 : decode cX1_init 21 = .ok (.aload_n 0, 1) := by decide +kernel
theorem dX1_init_22 : decode cX1_init 22 = .ok (.getfield 11, 3) := by decide +kernel
theorem dX1_init_25 : decode cX1_init 25 = .ok (.iload_n 2, 1) := by decide +kernel
theorem dX1_init_26 : decode cX1_init 26 = .ok (.new 9, 3) := by decide +kernel
theorem dX1_init_29 : decode cX1_init 29 = .ok (.dup, 1) := by decide +kernel
theorem dX1_init_30 : decode cX1_init 30 = .ok (.aload_n 1, 1) := by decide +kernel
theorem dX1_init_31 : decode cX1_init 31 = .ok (.invokespecial 17, 3) := by decide +kernel
theorem dX1_init_34 : decode cX1_init 34 = .ok (.aastore, 1) := by decide +kernel
theorem dX1_init_35 : decode cX1_init 35 = .ok (.iinc 2 1, 3) := by decide +kernel
theorem dX1_init_38 : decode cX1_init 38 = .ok (.goto (-23), 3) := by decide +kernel
theorem dX1_init_41 : decode cX1_init 41 = .ok (.return_, 1) := by decide +kernel
theorem dX1_remember_0 : decode cX1_remember 0 = .ok (.aload_n 0, 1) := by decide +kernel
theorem dX1_remember_1 : decode cX1_remember 1 = .ok (.getfield 20, 3) := by decide +kernel
theorem dX1_remember_4 : decode cX1_remember 4 = .ok (.ifCond .lt 12, 3) := by decide +kernel
theorem dX1_remember_7 : decode cX1_remember 7 = .ok (.aload_n 0, 1) := by decide +kernel
theorem dX1_remember_8 : decode cX1_remember 8 = .ok (.getfield 20, 3) := by decide +kernel
theorem dX1_remember_11 : decode cX1_remember 11 = .ok (.bipush 14, 2) := by decide +kernel
theorem dX1_remember_13 : decode cX1_remember 13 = .ok (.if_icmp .lt 4, 3) := by decide +kernel
theorem dX1_remember_16 : decode cX1_remember 16 = .ok (.return_, 1) := by decide +kernel
theorem dX1_remember_17 : decode cX1_remember 17 = .ok (.aload_n 0, 1) := by decide +kernel
theorem dX1_remember_18 : decode cX1_remember 18 = .ok (.getfield 11, 3) := by decide +kernel
theorem dX1_remember_21 : decode cX1_remember 21 = .ok (.aload_n 0, 1) := by decide +kernel
theorem dX1_remember_22 : decode cX1_remember 22 = .ok (.getfield 20, 3) := by decide +kernel
theorem dX1_remember_25 : decode cX1_remember 25 = .ok (.aaload, 1) := by decide +kernel
theorem dX1_remember_26 : decode cX1_remember 26 = .ok (.aload_n 1, 1) := by decide +kernel
theorem dX1_remember_27 : decode cX1_remember 27 = .ok (.invokevirtual 24, 3) := by decide +kernel
theorem dX1_remember_30 : decode cX1_remember 30 = .ok (.aload_n 0, 1) := by decide +kernel
theorem dX1_remember_31 : decode cX1_remember 31 = .ok (.aload_n 0, 1) := by decide +kernel
theorem dX1_remember_32 : decode cX1_remember 32 = .ok (.getfield 20, 3) := by decide +kernel
theorem dX1_remember_35 : decode cX1_remember 35 = .ok (.iconst 1, 1) := by decide +kernel
theorem dX1_remember_36 : decode cX1_remember 36 = .ok (.iadd, 1) := by decide +kernel
theorem dX1_remember_37 : decode cX1_remember 37 = .ok (.bipush 14, 2) := by decide +kernel
theorem dX1_remember_39 : decode cX1_remember 39 = .ok (.if_icmp .ge 12, 3) := by decide +kernel
theorem dX1_remember_42 : decode cX1_remember 42 = .ok (.aload_n 0, 1) := by decide +kernel
theorem dX1_remember_43 : decode cX1_remember 43 = .ok (.getfield 20, 3) := by decide +kernel
theorem dX1_remember_46 : decode cX1_remember 46 = .ok (.iconst 1, 1) := by decide +kernel
theorem dX1_remember_47 : decode cX1_remember 47 = .ok (.iadd, 1) := by decide +kernel
theorem dX1_remember_48 : decode cX1_remember 48 = .ok (.goto 4, 3) := by decide +kernel
theorem dX1_remember_51 : decode cX1_remember 51 = .ok (.iconst 0, 1) := by decide +kernel
theorem dX1_remember_52 : decode cX1_remember 52 = .ok (.putfield 20, 3) := by decide +kernel
theorem dX1_remember_55 : decode cX1_remember 55 = .ok (.aload_n 0, 1) := by decide +kernel
theorem dX1_remember_56 : decode cX1_remember 56 = .ok (.aload_n 0, 1) := by decide +kernel
theorem dX1_remember_57 : decode cX1_remember 57 = .ok (.getfield 28, 3) := by decide +kernel
theorem dX1_remember_60 : decode cX1_remember 60 = .ok (.iconst 1, 1) := by decide +kernel
theorem dX1_remember_61 : decode cX1_remember 61 = .ok (.iadd, 1) := by decide +kernel
theorem dX1_remember_62 : decode cX1_remember 62 = .ok (.bipush 14, 2) := by decide +kernel
theorem dX1_remember_64 : decode cX1_remember 64 = .ok (.invokestatic 31, 3) := by decide +kernel
theorem dX1_remember_67 : decode cX1_remember 67 = .ok (.putfield 28, 3) := by decide +kernel
theorem dX1_remember_70 : decode cX1_remember 70 = .ok (.return_, 1) := by decide +kernel
theorem dX1_takeBack_0 : decode cX1_takeBack 0 = .ok (.aload_n 0, 1) := by decide +kernel
theorem dX1_takeBack_1 : decode cX1_takeBack 1 = .ok (.getfield 20, 3) := by decide +kernel
theorem dX1_takeBack_4 : decode cX1_takeBack 4 = .ok (.ifCond .le 12, 3) := by decide +kernel
theorem dX1_takeBack_7 : decode cX1_takeBack 7 = .ok (.aload_n 0, 1) := by decide +kernel
theorem dX1_takeBack_8 : decode cX1_takeBack 8 = .ok (.getfield 20, 3) := by decide +kernel
theorem dX1_takeBack_11 : decode cX1_takeBack 11 = .ok (.iconst 1, 1) := by decide +kernel
theorem dX1_takeBack_12 : decode cX1_takeBack 12 = .ok (.isub, 1) := by decide +kernel
theorem dX1_takeBack_13 : decode cX1_takeBack 13 = .ok (.goto 5, 3) := by decide +kernel
theorem dX1_takeBack_16 : decode cX1_takeBack 16 = .ok (.bipush 13, 2) := by decide +kernel
theorem dX1_takeBack_18 : decode cX1_takeBack 18 = .ok (.istore_n 2, 1) := by decide +kernel
theorem dX1_takeBack_19 : decode cX1_takeBack 19 = .ok (.aload_n 0, 1) := by decide +kernel
theorem dX1_takeBack_20 : decode cX1_takeBack 20 = .ok (.getfield 28, 3) := by decide +kernel
theorem dX1_takeBack_23 : decode cX1_takeBack 23 = .ok (.iconst 1, 1) := by decide +kernel
theorem dX1_takeBack_24 : decode cX1_takeBack 24 = .ok (.if_icmp .lt 9, 3) := by decide +kernel
theorem dX1_takeBack_27 : decode cX1_takeBack 27 = .ok (.iload_n 2, 1) := by decide +kernel
theorem dX1_takeBack_28 : decode cX1_takeBack 28 = .ok (.bipush 14, 2) := by decide +kernel
theorem dX1_takeBack_30 : decode cX1_takeBack 30 = .ok (.if_icmp .lt 5, 3) := by decide +kernel
theorem dX1_takeBack_33 : decode cX1_takeBack 33 = .ok (.iconst 0, 1) := by decide +kernel
theorem dX1_takeBack_34 : decode cX1_takeBack 34 = .ok (.ireturn, 1) := by decide +kernel
theorem dX1_takeBack_35 : decode cX1_takeBack 35 = .ok (.aload_n 1, 1) := by decide +kernel
theorem dX1_takeBack_36 : decode cX1_takeBack 36 = .ok (.aload_n 0, 1) := by decide +kernel
theorem dX1_takeBack_37 : decode cX1_takeBack 37 = .ok (.getfield 11, 3) := by decide +kernel
theorem dX1_takeBack_40 : decode cX1_takeBack 40 = .ok (.iload_n 2, 1) := by decide +kernel
theorem dX1_takeBack_41 : decode cX1_takeBack 41 = .ok (.aaload, 1) := by decide +kernel
theorem dX1_takeBack_42 : decode cX1_takeBack 42 = .ok (.invokevirtual 24, 3) := by decide +kernel
theorem dX1_takeBack_45 : decode cX1_takeBack 45 = .ok (.aload_n 0, 1) := by decide +kernel
theorem dX1_takeBack_46 : decode cX1_takeBack 46 = .ok (.iload_n 2, 1) := by decide +kernel
theorem dX1_takeBack_47 : decode cX1_takeBack 47 = .ok (.putfield 20, 3) := by decide +kernel
theorem dX1_takeBack_50 : decode cX1_takeBack 50 = .ok (.aload_n 0, 1) := by decide +kernel
theorem dX1_takeBack_51 : decode cX1_takeBack 51 = .ok (.dup, 1) := by decide +kernel
theorem dX1_takeBack_52 : decode cX1_takeBack 52 = .ok (.getfield 28, 3) := by decide +kernel
theorem dX1_takeBack_55 : decode cX1_takeBack 55 = .ok (.iconst 1, 1) := by decide +kernel
theorem dX1_takeBack_56 : decode cX1_takeBack 56 = .ok (.isub, 1) := by decide +kernel
theorem dX1_takeBack_57 : decode cX1_takeBack 57 = .ok (.putfield 28, 3) := by decide +kernel
theorem dX1_takeBack_60 : decode cX1_takeBack 60 = .ok (.iconst 1, 1) := by decide +kernel
theorem dX1_takeBack_61 : decode cX1_takeBack 61 = .ok (.ireturn, 1) := by decide +kernel
theorem dX1_forgetAll_0 : decode cX1_forgetAll 0 = .ok (.aload_n 0, 1) := by decide +kernel
theorem dX1_forgetAll_1 : decode cX1_forgetAll 1 = .ok (.iconst 0, 1) := by decide +kernel
theorem dX1_forgetAll_2 : decode cX1_forgetAll 2 = .ok (.putfield 28, 3) := by decide +kernel
theorem dX1_forgetAll_5 : decode cX1_forgetAll 5 = .ok (.return_, 1) := by decide +kernel
theorem dX2_init_0 : decode cX2_init 0 = .ok (.aload_n 0, 1) := by decide +kernel
theorem dX2_init_1 : decode cX2_init 1 = .ok (.invokespecial 3, 3) := by decide +kernel
theorem dX2_init_4 : decode cX2_init 4 = .ok (.aload_n 0, 1) := by decide +kernel
theorem dX2_init_5 : decode cX2_init 5 = .ok (.sipush 1359, 3) := by decide +kernel
theorem dX2_init_8 : decode cX2_init 8 = .ok (.newarray .long, 2) := by decide +kernel
theorem dX2_init_10 : decode cX2_init 10 = .ok (.putfield 9, 3) := by decide +kernel
theorem dX2_init_13 : decode cX2_init 13 = .ok (.aload_n 0, 1) := by decide +kernel
theorem dX2_init_14 : decode cX2_init 14 = .ok (.sipush 2048, 3) := by decide +kernel
theorem dX2_init_17 : decode cX2_init 17 = .ok (.newarray .int, 2) := by decide +kernel
theorem dX2_init_19 : decode cX2_init 19 = .ok (.putfield 13, 3) := by decide +kernel
theorem dX2_init_22 : decode cX2_init 22 = .ok (.return_, 1) := by decide +kernel
theorem dX2_clear_0 : decode cX2_clear 0 = .ok (.aload_n 0, 1) := by decide +kernel
theorem dX2_clear_1 : decode cX2_clear 1 = .ok (.iconst 0, 1) := by decide +kernel
theorem dX2_clear_2 : decode cX2_clear 2 = .ok (.putfield 17, 3) := by decide +kernel
theorem dX2_clear_5 : decode cX2_clear 5 = .ok (.aload_n 0, 1) := by decide +kernel
theorem dX2_clear_6 : decode cX2_clear 6 = .ok (.getfield 13, 3) := by decide +kernel
theorem dX2_clear_9 : decode cX2_clear 9 = .ok (.iconst 0, 1) := by decide +kernel
theorem dX2_clear_10 : decode cX2_clear 10 = .ok (.invokestatic 21, 3) := by decide +kernel
theorem dX2_clear_13 : decode cX2_clear 13 = .ok (.return_, 1) := by decide +kernel
theorem dX2_add_0 : decode cX2_add 0 = .ok (.lload_n 1, 1) := by decide +kernel
theorem dX2_add_1 : decode cX2_add 1 = .ok (.ldc2_w 27, 3) := by decide +kernel
theorem dX2_add_4 : decode cX2_add 4 = .ok (.lmul, 1) := by decide +kernel
theorem dX2_add_5 : decode cX2_add 5 = .ok (.bipush 53, 2) := by decide +kernel
theorem dX2_add_7 : decode cX2_add 7 = .ok (.lushr, 1) := by decide +kernel
theorem dX2_add_8 : decode cX2_add 8 = .ok (.l2i, 1) := by decide +kernel
theorem dX2_add_9 : decode cX2_add 9 = .ok (.istore_n 3, 1) := by decide +kernel
theorem dX2_add_10 : decode cX2_add 10 = .ok (.iconst 0, 1) := by decide +kernel
theorem dX2_add_11 : decode cX2_add 11 = .ok (.istore 4, 2) := by decide +kernel
theorem dX2_add_13 : decode cX2_add 13 = .ok (.iload 4, 2) := by decide +kernel
theorem dX2_add_15 : decode cX2_add 15 = .ok (.sipush 2048, 3) := by decide +kernel
theorem dX2_add_18 : decode cX2_add 18 = .ok (.if_icmp .ge 65, 3) := by decide +kernel
theorem dX2_add_21 : decode cX2_add 21 = .ok (.iload_n 3, 1) := by decide +kernel
theorem dX2_add_22 : decode cX2_add 22 = .ok (.iload 4, 2) := by decide +kernel
theorem dX2_add_24 : decode cX2_add 24 = .ok (.iadd, 1) := by decide +kernel
theorem dX2_add_25 : decode cX2_add 25 = .ok (.sipush 2047, 3) := by decide +kernel
theorem dX2_add_28 : decode cX2_add 28 = .ok (.iand, 1) := by decide +kernel
theorem dX2_add_29 : decode cX2_add 29 = .ok (.istore 5, 2) := by decide +kernel
theorem dX2_add_31 : decode cX2_add 31 = .ok (.aload_n 0, 1) := by decide +kernel
theorem dX2_add_32 : decode cX2_add 32 = .ok (.getfield 13, 3) := by decide +kernel
theorem dX2_add_35 : decode cX2_add 35 = .ok (.iload 5, 2) := by decide +kernel
theorem dX2_add_37 : decode cX2_add 37 = .ok (.iaload, 1) := by decide +kernel
theorem dX2_add_38 : decode cX2_add 38 = .ok (.istore 6, 2) := by decide +kernel
theorem dX2_add_40 : decode cX2_add 40 = .ok (.iload 6, 2) := by decide +kernel
theorem dX2_add_42 : decode cX2_add 42 = .ok (.iconst 1, 1) := by decide +kernel
theorem dX2_add_43 : decode cX2_add 43 = .ok (.if_icmp .lt 11, 3) := by decide +kernel
theorem dX2_add_46 : decode cX2_add 46 = .ok (.iload 6, 2) := by decide +kernel
theorem dX2_add_48 : decode cX2_add 48 = .ok (.sipush 1359, 3) := by decide +kernel
theorem dX2_add_51 : decode cX2_add 51 = .ok (.if_icmp .le 11, 3) := by decide +kernel
theorem dX2_add_54 : decode cX2_add 54 = .ok (.aload_n 0, 1) := by decide +kernel
theorem dX2_add_55 : decode cX2_add 55 = .ok (.iload 5, 2) := by decide +kernel
theorem dX2_add_57 : decode cX2_add 57 = .ok (.lload_n 1, 1) := by decide +kernel
theorem dX2_add_58 : decode cX2_add 58 = .ok (.invokevirtual 29, 3) := by decide +kernel
theorem dX2_add_61 : decode cX2_add 61 = .ok (.return_, 1) := by decide +kernel
theorem dX2_add_62 : decode cX2_add 62 = .ok (.aload_n 0, 1) := by decide +kernel
theorem dX2_add_63 : decode cX2_add 63 = .ok (.getfield 9, 3) := by decide +kernel
theorem dX2_add_66 : decode cX2_add 66 = .ok (.iload 6, 2) := by decide +kernel
theorem dX2_add_68 : decode cX2_add 68 = .ok (.iconst 1, 1) := by decide +kernel
theorem dX2_add_69 : decode cX2_add 69 = .ok (.isub, 1) := by decide +kernel
theorem dX2_add_70 : decode cX2_add 70 = .ok (.laload, 1) := by decide +kernel
theorem dX2_add_71 : decode cX2_add 71 = .ok (.lload_n 1, 1) := by decide +kernel
theorem dX2_add_72 : decode cX2_add 72 = .ok (.lcmp, 1) := by decide +kernel
theorem dX2_add_73 : decode cX2_add 73 = .ok (.ifCond .ne 4, 3) := by decide +kernel
theorem dX2_add_76 : decode cX2_add 76 = .ok (.return_, 1) := by decide +kernel
theorem dX2_add_77 : decode cX2_add 77 = .ok (.iinc 4 1, 3) := by decide +kernel
theorem dX2_add_80 : decode cX2_add 80 = .ok (.goto (-67), 3) := by decide +kernel
theorem dX2_add_83 : decode cX2_add 83 = .ok (.return_, 1) := by decide +kernel
theorem dX2_insert_0 : decode cX2_insert 0 = .ok (.aload_n 0, 1) := by decide +kernel
theorem dX2_insert_1 : decode cX2_insert 1 = .ok (.getfield 17, 3) := by decide +kernel
theorem dX2_insert_4 : decode cX2_insert 4 = .ok (.sipush 1359, 3) := by decide +kernel
theorem dX2_insert_7 : decode cX2_insert 7 = .ok (.if_icmp .ge 44, 3) := by decide +kernel
theorem dX2_insert_10 : decode cX2_insert 10 = .ok (.iload_n 1, 1) := by decide +kernel
theorem dX2_insert_11 : decode cX2_insert 11 = .ok (.ifCond .lt 40, 3) := by decide +kernel
theorem dX2_insert_14 : decode cX2_insert 14 = .ok (.iload_n 1, 1) := by decide +kernel
theorem dX2_insert_15 : decode cX2_insert 15 = .ok (.sipush 2048, 3) := by decide +kernel
theorem dX2_insert_18 : decode cX2_insert 18 = .ok (.if_icmp .ge 33, 3) := by decide +kernel
theorem dX2_insert_21 : decode cX2_insert 21 = .ok (.aload_n 0, 1) := by decide +kernel
theorem dX2_insert_22 : decode cX2_insert 22 = .ok (.getfield 9, 3) := by decide +kernel
theorem dX2_insert_25 : decode cX2_insert 25 = .ok (.aload_n 0, 1) := by decide +kernel
theorem dX2_insert_26 : decode cX2_insert 26 = .ok (.getfield 17, 3) := by decide +kernel
theorem dX2_insert_29 : decode cX2_insert 29 = .ok (.lload_n 2, 1) := by decide +kernel
theorem dX2_insert_30 : decode cX2_insert 30 = .ok (.lastore, 1) := by decide +kernel
theorem dX2_insert_31 : decode cX2_insert 31 = .ok (.aload_n 0, 1) := by decide +kernel
theorem dX2_insert_32 : decode cX2_insert 32 = .ok (.dup, 1) := by decide +kernel
theorem dX2_insert_33 : decode cX2_insert 33 = .ok (.getfield 17, 3) := by decide +kernel
theorem dX2_insert_36 : decode cX2_insert 36 = .ok (.iconst 1, 1) := by decide +kernel
theorem dX2_insert_37 : decode cX2_insert 37 = .ok (.iadd, 1) := by decide +kernel
theorem dX2_insert_38 : decode cX2_insert 38 = .ok (.putfield 17, 3) := by decide +kernel
theorem dX2_insert_41 : decode cX2_insert 41 = .ok (.aload_n 0, 1) := by decide +kernel
theorem dX2_insert_42 : decode cX2_insert 42 = .ok (.getfield 13, 3) := by decide +kernel
theorem dX2_insert_45 : decode cX2_insert 45 = .ok (.iload_n 1, 1) := by decide +kernel
theorem dX2_insert_46 : decode cX2_insert 46 = .ok (.aload_n 0, 1) := by decide +kernel
theorem dX2_insert_47 : decode cX2_insert 47 = .ok (.getfield 17, 3) := by decide +kernel
theorem dX2_insert_50 : decode cX2_insert 50 = .ok (.iastore, 1) := by decide +kernel
theorem dX2_insert_51 : decode cX2_insert 51 = .ok (.return_, 1) := by decide +kernel
theorem dX3_init_0 : decode cX3_init 0 = .ok (.aload_n 0, 1) := by decide +kernel
theorem dX3_init_1 : decode cX3_init 1 = .ok (.invokespecial 3, 3) := by decide +kernel
theorem dX3_init_4 : decode cX3_init 4 = .ok (.aload_n 0, 1) := by decide +kernel
theorem dX3_init_5 : decode cX3_init 5 = .ok (.iconst 4, 1) := by decide +kernel
theorem dX3_init_6 : decode cX3_init 6 = .ok (.newarray .int, 2) := by decide +kernel
theorem dX3_init_8 : decode cX3_init 8 = .ok (.putfield 9, 3) := by decide +kernel
theorem dX3_init_11 : decode cX3_init 11 = .ok (.aload_n 0, 1) := by decide +kernel
theorem dX3_init_12 : decode cX3_init 12 = .ok (.iconst 4, 1) := by decide +kernel
theorem dX3_init_13 : decode cX3_init 13 = .ok (.newarray .int, 2) := by decide +kernel
theorem dX3_init_15 : decode cX3_init 15 = .ok (.putfield 15, 3) := by decide +kernel
theorem dX3_init_18 : decode cX3_init 18 = .ok (.return_, 1) := by decide +kernel
theorem dX3_add_0 : decode cX3_add 0 = .ok (.aload_n 0, 1) := by decide +kernel
theorem dX3_add_1 : decode cX3_add 1 = .ok (.getfield 18, 3) := by decide +kernel
theorem dX3_add_4 : decode cX3_add 4 = .ok (.ifCond .lt 11, 3) := by decide +kernel
theorem dX3_add_7 : decode cX3_add 7 = .ok (.aload_n 0, 1) := by decide +kernel
theorem dX3_add_8 : decode cX3_add 8 = .ok (.getfield 18, 3) := by decide +kernel
theorem dX3_add_11 : decode cX3_add 11 = .ok (.iconst 4, 1) := by decide +kernel
theorem dX3_add_12 : decode cX3_add 12 = .ok (.if_icmp .lt 4, 3) := by decide +kernel
theorem dX3_add_15 : decode cX3_add 15 = .ok (.return_, 1) := by decide +kernel
theorem dX3_add_16 : decode cX3_add 16 = .ok (.aload_n 0, 1) := by decide +kernel
theorem dX3_add_17 : decode cX3_add 17 = .ok (.getfield 9, 3) := by decide +kernel
theorem dX3_add_20 : decode cX3_add 20 = .ok (.aload_n 0, 1) := by decide +kernel
theorem dX3_add_21 : decode cX3_add 21 = .ok (.getfield 18, 3) := by decide +kernel
theorem dX3_add_24 : decode cX3_add 24 = .ok (.iload_n 1, 1) := by decide +kernel
theorem dX3_add_25 : decode cX3_add 25 = .ok (.iastore, 1) := by decide +kernel
theorem dX3_add_26 : decode cX3_add 26 = .ok (.aload_n 0, 1) := by decide +kernel
theorem dX3_add_27 : decode cX3_add 27 = .ok (.getfield 15, 3) := by decide +kernel
theorem dX3_add_30 : decode cX3_add 30 = .ok (.aload_n 0, 1) := by decide +kernel
theorem dX3_add_31 : decode cX3_add 31 = .ok (.getfield 18, 3) := by decide +kernel
theorem dX3_add_34 : decode cX3_add 34 = .ok (.iload_n 2, 1) := by decide +kernel
theorem dX3_add_35 : decode cX3_add 35 = .ok (.iastore, 1) := by decide +kernel
theorem dX3_add_36 : decode cX3_add 36 = .ok (.aload_n 0, 1) := by decide +kernel
theorem dX3_add_37 : decode cX3_add 37 = .ok (.aload_n 0, 1) := by decide +kernel
theorem dX3_add_38 : decode cX3_add 38 = .ok (.getfield 18, 3) := by decide +kernel
theorem dX3_add_41 : decode cX3_add 41 = .ok (.iconst 1, 1) := by decide +kernel
theorem dX3_add_42 : decode cX3_add 42 = .ok (.iadd, 1) := by decide +kernel
theorem dX3_add_43 : decode cX3_add 43 = .ok (.iconst 4, 1) := by decide +kernel
theorem dX3_add_44 : decode cX3_add 44 = .ok (.if_icmp .ge 12, 3) := by decide +kernel
theorem dX3_add_47 : decode cX3_add 47 = .ok (.aload_n 0, 1) := by decide +kernel
theorem dX3_add_48 : decode cX3_add 48 = .ok (.getfield 18, 3) := by decide +kernel
theorem dX3_add_51 : decode cX3_add 51 = .ok (.iconst 1, 1) := by decide +kernel
theorem dX3_add_52 : decode cX3_add 52 = .ok (.iadd, 1) := by decide +kernel
theorem dX3_add_53 : decode cX3_add 53 = .ok (.goto 4, 3) := by decide +kernel
theorem dX3_add_56 : decode cX3_add 56 = .ok (.iconst 0, 1) := by decide +kernel
theorem dX3_add_57 : decode cX3_add 57 = .ok (.putfield 18, 3) := by decide +kernel
theorem dX3_add_60 : decode cX3_add 60 = .ok (.aload_n 0, 1) := by decide +kernel
theorem dX3_add_61 : decode cX3_add 61 = .ok (.aload_n 0, 1) := by decide +kernel
theorem dX3_add_62 : decode cX3_add 62 = .ok (.getfield 22, 3) := by decide +kernel
theorem dX3_add_65 : decode cX3_add 65 = .ok (.iconst 1, 1) := by decide +kernel
theorem dX3_add_66 : decode cX3_add 66 = .ok (.iadd, 1) := by decide +kernel
theorem dX3_add_67 : decode cX3_add 67 = .ok (.iconst 4, 1) := by decide +kernel
theorem dX3_add_68 : decode cX3_add 68 = .ok (.invokestatic 25, 3) := by decide +kernel
theorem dX3_add_71 : decode cX3_add 71 = .ok (.putfield 22, 3) := by decide +kernel
theorem dX3_add_74 : decode cX3_add 74 = .ok (.return_, 1) := by decide +kernel
theorem dX3_allow_0 : decode cX3_allow 0 = .ok (.iconst 0, 1) := by decide +kernel
theorem dX3_allow_1 : decode cX3_allow 1 = .ok (.istore_n 3, 1) := by decide +kernel
theorem dX3_allow_2 : decode cX3_allow 2 = .ok (.iload_n 3, 1) := by decide +kernel
theorem dX3_allow_3 : decode cX3_allow 3 = .ok (.aload_n 0, 1) := by decide +kernel
theorem dX3_allow_4 : decode cX3_allow 4 = .ok (.getfield 22, 3) := by decide +kernel
theorem dX3_allow_7 : decode cX3_allow 7 = .ok (.if_icmp .ge 35, 3) := by decide +kernel
theorem dX3_allow_10 : decode cX3_allow 10 = .ok (.iload_n 3, 1) := by decide +kernel
theorem dX3_allow_11 : decode cX3_allow 11 = .ok (.iconst 4, 1) := by decide +kernel
theorem dX3_allow_12 : decode cX3_allow 12 = .ok (.if_icmp .ge 30, 3) := by decide +kernel
theorem dX3_allow_15 : decode cX3_allow 15 = .ok (.lload_n 1, 1) := by decide +kernel
theorem dX3_allow_16 : decode cX3_allow 16 = .ok (.aload_n 0, 1) := by decide +kernel
theorem dX3_allow_17 : decode cX3_allow 17 = .ok (.getfield 9, 3) := by decide +kernel
theorem dX3_allow_20 : decode cX3_allow 20 = .ok (.iload_n 3, 1) := by decide +kernel
theorem dX3_allow_21 : decode cX3_allow 21 = .ok (.iaload, 1) := by decide +kernel
theorem dX3_allow_22 : decode cX3_allow 22 = .ok (.invokestatic 31, 3) := by decide +kernel
theorem dX3_allow_25 : decode cX3_allow 25 = .ok (.aload_n 0, 1) := by decide +kernel
theorem dX3_allow_26 : decode cX3_allow 26 = .ok (.getfield 15, 3) := by decide +kernel
theorem dX3_allow_29 : decode cX3_allow 29 = .ok (.iload_n 3, 1) := by decide +kernel
theorem dX3_allow_30 : decode cX3_allow 30 = .ok (.iaload, 1) := by decide +kernel
theorem dX3_allow_31 : decode cX3_allow 31 = .ok (.if_icmp .eq 5, 3) := by decide +kernel
theorem dX3_allow_34 : decode cX3_allow 34 = .ok (.iconst 0, 1) := by decide +kernel
theorem dX3_allow_35 : decode cX3_allow 35 = .ok (.ireturn, 1) := by decide +kernel
theorem dX3_allow_36 : decode cX3_allow 36 = .ok (.iinc 3 1, 3) := by decide +kernel
theorem dX3_allow_39 : decode cX3_allow 39 = .ok (.goto (-37), 3) := by decide +kernel
theorem dX3_allow_42 : decode cX3_allow 42 = .ok (.iconst 1, 1) := by decide +kernel
theorem dX3_allow_43 : decode cX3_allow 43 = .ok (.ireturn, 1) := by decide +kernel
theorem dX4_init_0 : decode cX4_init 0 = .ok (.aload_n 0, 1) := by decide +kernel
theorem dX4_init_1 : decode cX4_init 1 = .ok (.invokespecial 1, 3) := by decide +kernel
theorem dX4_init_4 : decode cX4_init 4 = .ok (.aload_n 0, 1) := by decide +kernel
theorem dX4_init_5 : decode cX4_init 5 = .ok (.new 7, 3) := by decide +kernel
theorem dX4_init_8 : decode cX4_init 8 = .ok (.dup, 1) := by decide +kernel
theorem dX4_init_9 : decode cX4_init 9 = .ok (.invokespecial 9, 3) := by decide +kernel
theorem dX4_init_12 : decode cX4_init 12 = .ok (.putfield 10, 3) := by decide +kernel
theorem dX4_init_15 : decode cX4_init 15 = .ok (.return_, 1) := by decide +kernel
theorem dX4_copyFrom_0 : decode cX4_copyFrom 0 = .ok (.aload_n 0, 1) := by decide +kernel
theorem dX4_copyFrom_1 : decode cX4_copyFrom 1 = .ok (.aload_n 1, 1) := by decide +kernel
theorem dX4_copyFrom_2 : decode cX4_copyFrom 2 = .ok (.getfield 16, 3) := by decide +kernel
theorem dX4_copyFrom_5 : decode cX4_copyFrom 5 = .ok (.putfield 16, 3) := by decide +kernel
theorem dX4_copyFrom_8 : decode cX4_copyFrom 8 = .ok (.aload_n 0, 1) := by decide +kernel
theorem dX4_copyFrom_9 : decode cX4_copyFrom 9 = .ok (.aload_n 1, 1) := by decide +kernel
theorem dX4_copyFrom_10 : decode cX4_copyFrom 10 = .ok (.getfield 20, 3) := by decide +kernel
theorem dX4_copyFrom_13 : decode cX4_copyFrom 13 = .ok (.putfield 20, 3) := by decide +kernel
theorem dX4_copyFrom_16 : decode cX4_copyFrom 16 = .ok (.aload_n 0, 1) := by decide +kernel
theorem dX4_copyFrom_17 : decode cX4_copyFrom 17 = .ok (.aload_n 1, 1) := by decide +kernel
theorem dX4_copyFrom_18 : decode cX4_copyFrom 18 = .ok (.getfield 24, 3) := by decide +kernel
theorem dX4_copyFrom_21 : decode cX4_copyFrom 21 = .ok (.putfield 24, 3) := by decide +kernel
theorem dX4_copyFrom_24 : decode cX4_copyFrom 24 = .ok (.aload_n 0, 1) := by decide +kernel
theorem dX4_copyFrom_25 : decode cX4_copyFrom 25 = .ok (.aload_n 1, 1) := by decide +kernel
theorem dX4_copyFrom_26 : decode cX4_copyFrom 26 = .ok (.getfield 28, 3) := by decide +kernel
theorem dX4_copyFrom_29 : decode cX4_copyFrom 29 = .ok (.putfield 28, 3) := by decide +kernel
theorem dX4_copyFrom_32 : decode cX4_copyFrom 32 = .ok (.aload_n 0, 1) := by decide +kernel
theorem dX4_copyFrom_33 : decode cX4_copyFrom 33 = .ok (.getfield 10, 3) := by decide +kernel
theorem dX4_copyFrom_36 : decode cX4_copyFrom 36 = .ok (.aload_n 1, 1) := by decide +kernel
theorem dX4_copyFrom_37 : decode cX4_copyFrom 37 = .ok (.getfield 10, 3) := by decide +kernel
theorem dX4_copyFrom_40 : decode cX4_copyFrom 40 = .ok (.invokevirtual 31, 3) := by decide +kernel
theorem dX4_copyFrom_43 : decode cX4_copyFrom 43 = .ok (.return_, 1) := by decide +kernel
theorem dX5_init_0 : decode cX5_init 0 = .ok (.aload_n 0, 1) := by decide +kernel
theorem dX5_init_1 : decode cX5_init 1 = .ok (.invokespecial 3, 3) := by decide +kernel
theorem dX5_init_4 : decode cX5_init 4 = .ok (.aload_n 0, 1) := by decide +kernel
theorem dX5_init_5 : decode cX5_init 5 = .ok (.bipush 60, 2) := by decide +kernel
theorem dX5_init_7 : decode cX5_init 7 = .ok (.newarray .char, 2) := by decide +kernel
theorem dX5_init_9 : decode cX5_init 9 = .ok (.putfield 9, 3) := by decide +kernel
theorem dX5_init_12 : decode cX5_init 12 = .ok (.aload_n 0, 1) := by decide +kernel
theorem dX5_init_13 : decode cX5_init 13 = .ok (.bipush 60, 2) := by decide +kernel
theorem dX5_init_15 : decode cX5_init 15 = .ok (.newarray .int, 2) := by decide +kernel
theorem dX5_init_17 : decode cX5_init 17 = .ok (.putfield 15, 3) := by decide +kernel
theorem dX5_init_20 : decode cX5_init 20 = .ok (.aload_n 0, 1) := by decide +kernel
theorem dX5_init_21 : decode cX5_init 21 = .ok (.bipush 60, 2) := by decide +kernel
theorem dX5_init_23 : decode cX5_init 23 = .ok (.newarray .int, 2) := by decide +kernel
theorem dX5_init_25 : decode cX5_init 25 = .ok (.putfield 19, 3) := by decide +kernel
theorem dX5_init_28 : decode cX5_init 28 = .ok (.aload_n 0, 1) := by decide +kernel
theorem dX5_init_29 : decode cX5_init 29 = .ok (.iconst 3, 1) := by decide +kernel
theorem dX5_init_30 : decode cX5_init 30 = .ok (.newarray .int, 2) := by decide +kernel
theorem dX5_init_32 : decode cX5_init 32 = .ok (.putfield 22, 3) := by decide +kernel
theorem dX5_init_35 : decode cX5_init 35 = .ok (.return_, 1) := by decide +kernel
theorem dX5_clear_0 : decode cX5_clear 0 = .ok (.aload_n 0, 1) := by decide +kernel
theorem dX5_clear_1 : decode cX5_clear 1 = .ok (.iconst 0, 1) := by decide +kernel
theorem dX5_clear_2 : decode cX5_clear 2 = .ok (.putfield 25, 3) := by decide +kernel
theorem dX5_clear_5 : decode cX5_clear 5 = .ok (.aload_n 0, 1) := by decide +kernel
theorem dX5_clear_6 : decode cX5_clear 6 = .ok (.iconst 0, 1) := by decide +kernel
theorem dX5_clear_7 : decode cX5_clear 7 = .ok (.putfield 29, 3) := by decide +kernel
theorem dX5_clear_10 : decode cX5_clear 10 = .ok (.return_, 1) := by decide +kernel
theorem dX5_add_0 : decode cX5_add 0 = .ok (.aload_n 0, 1) := by decide +kernel
theorem dX5_add_1 : decode cX5_add 1 = .ok (.getfield 25, 3) := by decide +kernel
theorem dX5_add_4 : decode cX5_add 4 = .ok (.bipush 60, 2) := by decide +kernel
theorem dX5_add_6 : decode cX5_add 6 = .ok (.if_icmp .lt 4, 3) := by decide +kernel
theorem dX5_add_9 : decode cX5_add 9 = .ok (.return_, 1) := by decide +kernel
theorem dX5_add_10 : decode cX5_add 10 = .ok (.iload_n 1, 1) := by decide +kernel
theorem dX5_add_11 : decode cX5_add 11 = .ok (.bipush 124, 2) := by decide +kernel
theorem dX5_add_13 : decode cX5_add 13 = .ok (.if_icmp .eq 15, 3) := by decide +kernel
theorem dX5_add_16 : decode cX5_add 16 = .ok (.iload_n 1, 1) := by decide +kernel
theorem dX5_add_17 : decode cX5_add 17 = .ok (.bipush 41, 2) := by decide +kernel
theorem dX5_add_19 : decode cX5_add 19 = .ok (.if_icmp .eq 9, 3) := by decide +kernel
theorem dX5_add_22 : decode cX5_add 22 = .ok (.iload_n 1, 1) := by decide +kernel
theorem dX5_add_23 : decode cX5_add 23 = .ok (.bipush 125, 2) := by decide +kernel
theorem dX5_add_25 : decode cX5_add 25 = .ok (.if_icmp .ne 7, 3) := by decide +kernel
theorem dX5_add_28 : decode cX5_add 28 = .ok (.aload_n 0, 1) := by decide +kernel
theorem dX5_add_29 : decode cX5_add 29 = .ok (.invokevirtual 32, 3) := by decide +kernel
theorem dX5_add_32 : decode cX5_add 32 = .ok (.iload_n 1, 1) := by decide +kernel
theorem dX5_add_33 : decode cX5_add 33 = .ok (.bipush 40, 2) := by decide +kernel
theorem dX5_add_35 : decode cX5_add 35 = .ok (.if_icmp .eq 15, 3) := by decide +kernel
theorem dX5_add_38 : decode cX5_add 38 = .ok (.iload_n 1, 1) := by decide +kernel
theorem dX5_add_39 : decode cX5_add 39 = .ok (.bipush 124, 2) := by decide +kernel
theorem dX5_add_41 : decode cX5_add 41 = .ok (.if_icmp .eq 9, 3) := by decide +kernel
theorem dX5_add_44 : decode cX5_add 44 = .ok (.iload_n 1, 1) := by decide +kernel
theorem dX5_add_45 : decode cX5_add 45 = .ok (.bipush 123, 2) := by decide +kernel
theorem dX5_add_47 : decode cX5_add 47 = .ok (.if_icmp .ne 7, 3) := by decide +kernel
theorem dX5_add_50 : decode cX5_add 50 = .ok (.aload_n 0, 1) := by decide +kernel
theorem dX5_add_51 : decode cX5_add 51 = .ok (.invokevirtual 35, 3) := by decide +kernel
theorem dX5_add_54 : decode cX5_add 54 = .ok (.aload_n 0, 1) := by decide +kernel
theorem dX5_add_55 : decode cX5_add 55 = .ok (.getfield 9, 3) := by decide +kernel
theorem dX5_add_58 : decode cX5_add 58 = .ok (.aload_n 0, 1) := by decide +kernel
theorem dX5_add_59 : decode cX5_add 59 = .ok (.getfield 25, 3) := by decide +kernel
theorem dX5_add_62 : decode cX5_add 62 = .ok (.iload_n 1, 1) := by decide +kernel
theorem dX5_add_63 : decode cX5_add 63 = .ok (.castore, 1) := by decide +kernel
theorem dX5_add_64 : decode cX5_add 64 = .ok (.aload_n 0, 1) := by decide +kernel
theorem dX5_add_65 : decode cX5_add 65 = .ok (.getfield 15, 3) := by decide +kernel
theorem dX5_add_68 : decode cX5_add 68 = .ok (.aload_n 0, 1) := by decide +kernel
theorem dX5_add_69 : decode cX5_add 69 = .ok (.getfield 25, 3) := by decide +kernel
theorem dX5_add_72 : decode cX5_add 72 = .ok (.iload_n 2, 1) := by decide +kernel
theorem dX5_add_73 : decode cX5_add 73 = .ok (.iastore, 1) := by decide +kernel
theorem dX5_add_74 : decode cX5_add 74 = .ok (.aload_n 0, 1) := by decide +kernel
theorem dX5_add_75 : decode cX5_add 75 = .ok (.dup, 1) := by decide +kernel
theorem dX5_add_76 : decode cX5_add 76 = .ok (.getfield 25, 3) := by decide +kernel
theorem dX5_add_79 : decode cX5_add 79 = .ok (.iconst 1, 1) := by decide +kernel
theorem dX5_add_80 : decode cX5_add 80 = .ok (.iadd, 1) := by decide +kernel
theorem dX5_add_81 : decode cX5_add 81 = .ok (.putfield 25, 3) := by decide +kernel
theorem dX5_add_84 : decode cX5_add 84 = .ok (.return_, 1) := by decide +kernel
theorem dX5_matchLast_0 : decode cX5_matchLast 0 = .ok (.aload_n 0, 1) := by decide +kernel
theorem dX5_matchLast_1 : decode cX5_matchLast 1 = .ok (.getfield 29, 3) := by decide +kernel
theorem dX5_matchLast_4 : decode cX5_matchLast 4 = .ok (.iconst 1, 1) := by decide +kernel
theorem dX5_matchLast_5 : decode cX5_matchLast 5 = .ok (.if_icmp .lt 51, 3) := by decide +kernel
theorem dX5_matchLast_8 : decode cX5_matchLast 8 = .ok (.aload_n 0, 1) := by decide +kernel
theorem dX5_matchLast_9 : decode cX5_matchLast 9 = .ok (.getfield 29, 3) := by decide +kernel
theorem dX5_matchLast_12 : decode cX5_matchLast 12 = .ok (.iconst 3, 1) := by decide +kernel
theorem dX5_matchLast_13 : decode cX5_matchLast 13 = .ok (.if_icmp .gt 43, 3) := by decide +kernel
theorem dX5_matchLast_16 : decode cX5_matchLast 16 = .ok (.aload_n 0, 1) := by decide +kernel
theorem dX5_matchLast_17 : decode cX5_matchLast 17 = .ok (.dup, 1) := by decide +kernel
theorem dX5_matchLast_18 : decode cX5_matchLast 18 = .ok (.getfield 29, 3) := by decide +kernel
theorem dX5_matchLast_21 : decode cX5_matchLast 21 = .ok (.iconst 1, 1) := by decide +kernel
theorem dX5_matchLast_22 : decode cX5_matchLast 22 = .ok (.isub, 1) := by decide +kernel
theorem dX5_matchLast_23 : decode cX5_matchLast 23 = .ok (.putfield 29, 3) := by decide +kernel
theorem dX5_matchLast_26 : decode cX5_matchLast 26 = .ok (.aload_n 0, 1) := by decide +kernel
theorem dX5_matchLast_27 : decode cX5_matchLast 27 = .ok (.getfield 22, 3) := by decide +kernel
theorem dX5_matchLast_30 : decode cX5_matchLast 30 = .ok (.aload_n 0, 1) := by decide +kernel
theorem dX5_matchLast_31 : decode cX5_matchLast 31 = .ok (.getfield 29, 3) := by decide +kernel
theorem dX5_matchLast_34 : decode cX5_matchLast 34 = .ok (.iaload, 1) := by decide +kernel
theorem dX5_matchLast_35 : decode cX5_matchLast 35 = .ok (.istore_n 1, 1) := by decide +kernel
theorem dX5_matchLast_36 : decode cX5_matchLast 36 = .ok (.iload_n 1, 1) := by decide +kernel
theorem dX5_matchLast_37 : decode cX5_matchLast 37 = .ok (.ifCond .lt 19, 3) := by decide +kernel
theorem dX5_matchLast_40 : decode cX5_matchLast 40 = .ok (.iload_n 1, 1) := by decide +kernel
theorem dX5_matchLast_41 : decode cX5_matchLast 41 = .ok (.bipush 60, 2) := by decide +kernel
theorem dX5_matchLast_43 : decode cX5_matchLast 43 = .ok (.if_icmp .ge 13, 3) := by decide +kernel
theorem dX5_matchLast_46 : decode cX5_matchLast 46 = .ok (.aload_n 0, 1) := by decide +kernel
theorem dX5_matchLast_47 : decode cX5_matchLast 47 = .ok (.getfield 19, 3) := by decide +kernel
theorem dX5_matchLast_50 : decode cX5_matchLast 50 = .ok (.iload_n 1, 1) := by decide +kernel
theorem dX5_matchLast_51 : decode cX5_matchLast 51 = .ok (.aload_n 0, 1) := by decide +kernel
theorem dX5_matchLast_52 : decode cX5_matchLast 52 = .ok (.getfield 25, 3) := by decide +kernel
theorem dX5_matchLast_55 : decode cX5_matchLast 55 = .ok (.iastore, 1) := by decide +kernel
theorem dX5_matchLast_56 : decode cX5_matchLast 56 = .ok (.return_, 1) := by decide +kernel
theorem dX5_leaveUnmatched_0 : decode cX5_leaveUnmatched 0 = .ok (.aload_n 0, 1) := by decide +kernel
theorem dX5_leaveUnmatched_1 : decode cX5_leaveUnmatched 1 = .ok (.getfield 29, 3) := by decide +kernel
theorem dX5_leaveUnmatched_4 : decode cX5_leaveUnmatched 4 = .ok (.ifCond .lt 34, 3) := by decide +kernel
theorem dX5_leaveUnmatched_7 : decode cX5_leaveUnmatched 7 = .ok (.aload_n 0, 1) := by decide +kernel
theorem dX5_leaveUnmatched_8 : decode cX5_leaveUnmatched 8 = .ok (.getfield 29, 3) := by decide +kernel
theorem dX5_leaveUnmatched_11 : decode cX5_leaveUnmatched 11 = .ok (.iconst 3, 1) := by decide +kernel
theorem dX5_leaveUnmatched_12 : decode cX5_leaveUnmatched 12 = .ok (.if_icmp .ge 26, 3) := by decide +kernel
theorem dX5_leaveUnmatched_15 : decode cX5_leaveUnmatched 15 = .ok (.aload_n 0, 1) := by decide +kernel
theorem dX5_leaveUnmatched_16 : decode cX5_leaveUnmatched 16 = .ok (.getfield 22, 3) := by decide +kernel
theorem dX5_leaveUnmatched_19 : decode cX5_leaveUnmatched 19 = .ok (.aload_n 0, 1) := by decide +kernel
theorem dX5_leaveUnmatched_20 : decode cX5_leaveUnmatched 20 = .ok (.getfield 29, 3) := by decide +kernel
theorem dX5_leaveUnmatched_23 : decode cX5_leaveUnmatched 23 = .ok (.aload_n 0, 1) := by decide +kernel
theorem dX5_leaveUnmatched_24 : decode cX5_leaveUnmatched 24 = .ok (.getfield 25, 3) := by decide +kernel
theorem dX5_leaveUnmatched_27 : decode cX5_leaveUnmatched 27 = .ok (.iastore, 1) := by decide +kernel
theorem dX5_leaveUnmatched_28 : decode cX5_leaveUnmatched 28 = .ok (.aload_n 0, 1) := by decide +kernel
theorem dX5_leaveUnmatched_29 : decode cX5_leaveUnmatched 29 = .ok (.dup, 1) := by decide +kernel
theorem dX5_leaveUnmatched_30 : decode cX5_leaveUnmatched 30 = .ok (.getfield 29, 3) := by decide +kernel
theorem dX5_leaveUnmatched_33 : decode cX5_leaveUnmatched 33 = .ok (.iconst 1, 1) := by decide +kernel
theorem dX5_leaveUnmatched_34 : decode cX5_leaveUnmatched 34 = .ok (.iadd, 1) := by decide +kernel
theorem dX5_leaveUnmatched_35 : decode cX5_leaveUnmatched 35 = .ok (.putfield 29, 3) := by decide +kernel
theorem dX5_leaveUnmatched_38 : decode cX5_leaveUnmatched 38 = .ok (.return_, 1) := by decide +kernel
theorem dX5_has_0 : decode cX5_has 0 = .ok (.iload_n 1, 1) := by decide +kernel
theorem dX5_has_1 : decode cX5_has 1 = .ok (.ifCond .lt 21, 3) := by decide +kernel
theorem dX5_has_4 : decode cX5_has 4 = .ok (.iload_n 1, 1) := by decide +kernel
theorem dX5_has_5 : decode cX5_has 5 = .ok (.aload_n 0, 1) := by decide +kernel
theorem dX5_has_6 : decode cX5_has 6 = .ok (.getfield 25, 3) := by decide +kernel
theorem dX5_has_9 : decode cX5_has 9 = .ok (.if_icmp .ge 13, 3) := by decide +kernel
theorem dX5_has_12 : decode cX5_has 12 = .ok (.iload_n 1, 1) := by decide +kernel
theorem dX5_has_13 : decode cX5_has 13 = .ok (.bipush 60, 2) := by decide +kernel
theorem dX5_has_15 : decode cX5_has 15 = .ok (.if_icmp .ge 7, 3) := by decide +kernel
theorem dX5_has_18 : decode cX5_has 18 = .ok (.iconst 1, 1) := by decide +kernel
theorem dX5_has_19 : decode cX5_has 19 = .ok (.goto 4, 3) := by decide +kernel
theorem dX5_has_22 : decode cX5_has 22 = .ok (.iconst 0, 1) := by decide +kernel
theorem dX5_has_23 : decode cX5_has 23 = .ok (.ireturn, 1) := by decide +kernel
theorem dX5_behindPartner_0 : decode cX5_behindPartner 0 = .ok (.aload_n 0, 1) := by decide +kernel
theorem dX5_behindPartner_1 : decode cX5_behindPartner 1 = .ok (.iload_n 1, 1) := by decide +kernel
theorem dX5_behindPartner_2 : decode cX5_behindPartner 2 = .ok (.invokevirtual 38, 3) := by decide +kernel
theorem dX5_behindPartner_5 : decode cX5_behindPartner 5 = .ok (.ifCond .eq 14, 3) := by decide +kernel
theorem dX5_behindPartner_8 : decode cX5_behindPartner 8 = .ok (.aload_n 0, 1) := by decide +kernel
theorem dX5_behindPartner_9 : decode cX5_behindPartner 9 = .ok (.getfield 19, 3) := by decide +kernel
theorem dX5_behindPartner_12 : decode cX5_behindPartner 12 = .ok (.iload_n 1, 1) := by decide +kernel
theorem dX5_behindPartner_13 : decode cX5_behindPartner 13 = .ok (.iaload, 1) := by decide +kernel
theorem dX5_behindPartner_14 : decode cX5_behindPartner 14 = .ok (.iconst 1, 1) := by decide +kernel
theorem dX5_behindPartner_15 : decode cX5_behindPartner 15 = .ok (.iadd, 1) := by decide +kernel
theorem dX5_behindPartner_16 : decode cX5_behindPartner 16 = .ok (.goto 7, 3) := by decide +kernel
theorem dX5_behindPartner_19 : decode cX5_behindPartner 19 = .ok (.aload_n 0, 1) := by decide +kernel
theorem dX5_behindPartner_20 : decode cX5_behindPartner 20 = .ok (.getfield 25, 3) := by decide +kernel
theorem dX5_behindPartner_23 : decode cX5_behindPartner 23 = .ok (.ireturn, 1) := by decide +kernel
theorem dX6_init_0 : decode cX6_init 0 = .ok (.aload_n 0, 1) := by decide +kernel
theorem dX6_init_1 : decode cX6_init 1 = .ok (.invokespecial 5, 3) := by decide +kernel
theorem dX6_init_4 : decode cX6_init 4 = .ok (.aload_n 0, 1) := by decide +kernel
theorem dX6_init_5 : decode cX6_init 5 = .ok (.new 11, 3) := by decide +kernel
theorem dX6_init_8 : decode cX6_init 8 = .ok (.dup, 1) := by decide +kernel
theorem dX6_init_9 : decode cX6_init 9 = .ok (.invokespecial 13, 3) := by decide +kernel
theorem dX6_init_12 : decode cX6_init 12 = .ok (.putfield 14, 3) := by decide +kernel
theorem dX6_init_15 : decode cX6_init 15 = .ok (.aload_n 0, 1) := by decide +kernel
theorem dX6_init_16 : decode cX6_init 16 = .ok (.new 11, 3) := by decide +kernel
theorem dX6_init_19 : decode cX6_init 19 = .ok (.dup, 1) := by decide +kernel
theorem dX6_init_20 : decode cX6_init 20 = .ok (.invokespecial 13, 3) := by decide +kernel
theorem dX6_init_23 : decode cX6_init 23 = .ok (.putfield 18, 3) := by decide +kernel
theorem dX6_init_26 : decode cX6_init 26 = .ok (.aload_n 0, 1) := by decide +kernel
theorem dX6_init_27 : decode cX6_init 27 = .ok (.new 21, 3) := by decide +kernel
theorem dX6_init_30 : decode cX6_init 30 = .ok (.dup, 1) := by decide +kernel
theorem dX6_init_31 : decode cX6_init 31 = .ok (.aload_n 1, 1) := by decide +kernel
theorem dX6_init_32 : decode cX6_init 32 = .ok (.invokespecial 23, 3) := by decide +kernel
theorem dX6_init_35 : decode cX6_init 35 = .ok (.putfield 26, 3) := by decide +kernel
theorem dX6_init_38 : decode cX6_init 38 = .ok (.return_, 1) := by decide +kernel
theorem dX6_explore_0 : decode cX6_explore 0 = .ok (.aload_n 0, 1) := by decide +kernel
theorem dX6_explore_1 : decode cX6_explore 1 = .ok (.getfield 14, 3) := by decide +kernel
theorem dX6_explore_4 : decode cX6_explore 4 = .ok (.invokevirtual 30, 3) := by decide +kernel
theorem dX6_explore_7 : decode cX6_explore 7 = .ok (.aload_n 0, 1) := by decide +kernel
theorem dX6_explore_8 : decode cX6_explore 8 = .ok (.getfield 18, 3) := by decide +kernel
theorem dX6_explore_11 : decode cX6_explore 11 = .ok (.invokevirtual 30, 3) := by decide +kernel
theorem dX6_explore_14 : decode cX6_explore 14 = .ok (.aload_n 0, 1) := by decide +kernel
theorem dX6_explore_15 : decode cX6_explore 15 = .ok (.getfield 26, 3) := by decide +kernel
theorem dX6_explore_18 : decode cX6_explore 18 = .ok (.aload_n 1, 1) := by decide +kernel
theorem dX6_explore_19 : decode cX6_explore 19 = .ok (.invokevirtual 33, 3) := by decide +kernel
theorem dX6_explore_22 : decode cX6_explore 22 = .ok (.aload_n 0, 1) := by decide +kernel
theorem dX6_explore_23 : decode cX6_explore 23 = .ok (.getfield 14, 3) := by decide +kernel
theorem dX6_explore_26 : decode cX6_explore 26 = .ok (.aload_n 0, 1) := by decide +kernel
theorem dX6_explore_27 : decode cX6_explore 27 = .ok (.invokevirtual 37, 3) := by decide +kernel
theorem dX6_explore_30 : decode cX6_explore 30 = .ok (.invokevirtual 41, 3) := by decide +kernel
theorem dX6_explore_33 : decode cX6_explore 33 = .ok (.iconst 0, 1) := by decide +kernel
theorem dX6_explore_34 : decode cX6_explore 34 = .ok (.istore_n 2, 1) := by decide +kernel
theorem dX6_explore_35 : decode cX6_explore 35 = .ok (.iload_n 2, 1) := by decide +kernel
theorem dX6_explore_36 : decode cX6_explore 36 = .ok (.aload_n 0, 1) := by decide +kernel
theorem dX6_explore_37 : decode cX6_explore 37 = .ok (.getfield 14, 3) := by decide +kernel
theorem dX6_explore_40 : decode cX6_explore 40 = .ok (.getfield 45, 3) := by decide +kernel
theorem dX6_explore_43 : decode cX6_explore 43 = .ok (.if_icmp .ge 99, 3) := by decide +kernel
theorem dX6_explore_46 : decode cX6_explore 46 = .ok (.iload_n 2, 1) := by decide +kernel
theorem dX6_explore_47 : decode cX6_explore 47 = .ok (.sipush 1359, 3) := by decide +kernel
theorem dX6_explore_50 : decode cX6_explore 50 = .ok (.if_icmp .ge 92, 3) := by decide +kernel
theorem dX6_explore_53 : decode cX6_explore 53 = .ok (.aload_n 0, 1) := by decide +kernel
theorem dX6_explore_54 : decode cX6_explore 54 = .ok (.getfield 14, 3) := by decide +kernel
theorem dX6_explore_57 : decode cX6_explore 57 = .ok (.getfield 49, 3) := by decide +kernel
theorem dX6_explore_60 : decode cX6_explore 60 = .ok (.iload_n 2, 1) := by decide +kernel
theorem dX6_explore_61 : decode cX6_explore 61 = .ok (.laload, 1) := by decide +kernel
theorem dX6_explore_62 : decode cX6_explore 62 = .ok (.lstore_n 3, 1) := by decide +kernel
theorem dX6_explore_63 : decode cX6_explore 63 = .ok (.iconst 1, 1) := by decide +kernel
theorem dX6_explore_64 : decode cX6_explore 64 = .ok (.istore 5, 2) := by decide +kernel
theorem dX6_explore_66 : decode cX6_explore 66 = .ok (.iconst 0, 1) := by decide +kernel
theorem dX6_explore_67 : decode cX6_explore 67 = .ok (.istore 6, 2) := by decide +kernel
theorem dX6_explore_69 : decode cX6_explore 69 = .ok (.iload 6, 2) := by decide +kernel
theorem dX6_explore_71 : decode cX6_explore 71 = .ok (.aload_n 0, 1) := by decide +kernel
theorem dX6_explore_72 : decode cX6_explore 72 = .ok (.getfield 26, 3) := by decide +kernel
theorem dX6_explore_75 : decode cX6_explore 75 = .ok (.getfield 53, 3) := by decide +kernel
theorem dX6_explore_78 : decode cX6_explore 78 = .ok (.if_icmp .ge 41, 3) := by decide +kernel
theorem dX6_explore_81 : decode cX6_explore 81 = .ok (.iload 6, 2) := by decide +kernel
theorem dX6_explore_83 : decode cX6_explore 83 = .ok (.iconst 3, 1) := by decide +kernel
theorem dX6_explore_84 : decode cX6_explore 84 = .ok (.if_icmp .ge 35, 3) := by decide +kernel
theorem dX6_explore_87 : decode cX6_explore 87 = .ok (.lload_n 3, 1) := by decide +kernel
theorem dX6_explore_88 : decode cX6_explore 88 = .ok (.iload 6, 2) := by decide +kernel
theorem dX6_explore_90 : decode cX6_explore 90 = .ok (.invokestatic 56, 3) := by decide +kernel
theorem dX6_explore_93 : decode cX6_explore 93 = .ok (.ifCond .eq 20, 3) := by decide +kernel
theorem dX6_explore_96 : decode cX6_explore 96 = .ok (.aload_n 0, 1) := by decide +kernel
theorem dX6_explore_97 : decode cX6_explore 97 = .ok (.getfield 14, 3) := by decide +kernel
theorem dX6_explore_100 : decode cX6_explore 100 = .ok (.aload_n 0, 1) := by decide +kernel
theorem dX6_explore_101 : decode cX6_explore 101 = .ok (.lload_n 3, 1) := by decide +kernel
theorem dX6_explore_102 : decode cX6_explore 102 = .ok (.iload 6, 2) := by decide +kernel
theorem dX6_explore_104 : decode cX6_explore 104 = .ok (.invokevirtual 60, 3) := by decide +kernel
theorem dX6_explore_107 : decode cX6_explore 107 = .ok (.invokevirtual 41, 3) := by decide +kernel
theorem dX6_explore_110 : decode cX6_explore 110 = .ok (.iconst 0, 1) := by decide +kernel
theorem dX6_explore_111 : decode cX6_explore 111 = .ok (.istore 5, 2) := by decide +kernel
theorem dX6_explore_113 : decode cX6_explore 113 = .ok (.iinc 6 1, 3) := by decide +kernel
theorem dX6_explore_116 : decode cX6_explore 116 = .ok (.goto (-47), 3) := by decide +kernel
theorem dX6_explore_119 : decode cX6_explore 119 = .ok (.iload 5, 2) := by decide +kernel
theorem dX6_explore_121 : decode cX6_explore 121 = .ok (.ifCond .eq 15, 3) := by decide +kernel
theorem dX6_explore_124 : decode cX6_explore 124 = .ok (.aload_n 0, 1) := by decide +kernel
theorem dX6_explore_125 : decode cX6_explore 125 = .ok (.getfield 18, 3) := by decide +kernel
theorem dX6_explore_128 : decode cX6_explore 128 = .ok (.lload_n 3, 1) := by decide +kernel
theorem dX6_explore_129 : decode cX6_explore 129 = .ok (.ldc2_w 64, 3) := by decide +kernel
theorem dX6_explore_132 : decode cX6_explore 132 = .ok (.land, 1) := by decide +kernel
theorem dX6_explore_133 : decode cX6_explore 133 = .ok (.invokevirtual 41, 3) := by decide +kernel
theorem dX6_explore_136 : decode cX6_explore 136 = .ok (.iinc 2 1, 3) := by decide +kernel
theorem dX6_explore_139 : decode cX6_explore 139 = .ok (.goto (-104), 3) := by decide +kernel
theorem dX6_explore_142 : decode cX6_explore 142 = .ok (.return_, 1) := by decide +kernel
theorem dX6_firstPoint_0 : decode cX6_firstPoint 0 = .ok (.aload_n 0, 1) := by decide +kernel
theorem dX6_firstPoint_1 : decode cX6_firstPoint 1 = .ok (.getfield 26, 3) := by decide +kernel
theorem dX6_firstPoint_4 : decode cX6_firstPoint 4 = .ok (.getfield 66, 3) := by decide +kernel
theorem dX6_firstPoint_7 : decode cX6_firstPoint 7 = .ok (.invokestatic 70, 3) := by decide +kernel
theorem dX6_firstPoint_10 : decode cX6_firstPoint 10 = .ok (.lstore_n 1, 1) := by decide +kernel
theorem dX6_firstPoint_11 : decode cX6_firstPoint 11 = .ok (.iconst 0, 1) := by decide +kernel
theorem dX6_firstPoint_12 : decode cX6_firstPoint 12 = .ok (.istore_n 3, 1) := by decide +kernel
theorem dX6_firstPoint_13 : decode cX6_firstPoint 13 = .ok (.iload_n 3, 1) := by decide +kernel
theorem dX6_firstPoint_14 : decode cX6_firstPoint 14 = .ok (.aload_n 0, 1) := by decide +kernel
theorem dX6_firstPoint_15 : decode cX6_firstPoint 15 = .ok (.getfield 26, 3) := by decide +kernel
theorem dX6_firstPoint_18 : decode cX6_firstPoint 18 = .ok (.getfield 53, 3) := by decide +kernel
theorem dX6_firstPoint_21 : decode cX6_firstPoint 21 = .ok (.if_icmp .ge 59, 3) := by decide +kernel
theorem dX6_firstPoint_24 : decode cX6_firstPoint 24 = .ok (.iload_n 3, 1) := by decide +kernel
theorem dX6_firstPoint_25 : decode cX6_firstPoint 25 = .ok (.iconst 3, 1) := by decide +kernel
theorem dX6_firstPoint_26 : decode cX6_firstPoint 26 = .ok (.if_icmp .ge 54, 3) := by decide +kernel
theorem dX6_firstPoint_29 : decode cX6_firstPoint 29 = .ok (.aload_n 0, 1) := by decide +kernel
theorem dX6_firstPoint_30 : decode cX6_firstPoint 30 = .ok (.getfield 26, 3) := by decide +kernel
theorem dX6_firstPoint_33 : decode cX6_firstPoint 33 = .ok (.getfield 74, 3) := by decide +kernel
theorem dX6_firstPoint_36 : decode cX6_firstPoint 36 = .ok (.iload_n 3, 1) := by decide +kernel
theorem dX6_firstPoint_37 : decode cX6_firstPoint 37 = .ok (.aaload, 1) := by decide +kernel
theorem dX6_firstPoint_38 : decode cX6_firstPoint 38 = .ok (.getfield 78, 3) := by decide +kernel
theorem dX6_firstPoint_41 : decode cX6_firstPoint 41 = .ok (.iconst 3, 1) := by decide +kernel
theorem dX6_firstPoint_42 : decode cX6_firstPoint 42 = .ok (.if_icmp .ne 13, 3) := by decide +kernel
theorem dX6_firstPoint_45 : decode cX6_firstPoint 45 = .ok (.lload_n 1, 1) := by decide +kernel
theorem dX6_firstPoint_46 : decode cX6_firstPoint 46 = .ok (.iload_n 3, 1) := by decide +kernel
theorem dX6_firstPoint_47 : decode cX6_firstPoint 47 = .ok (.invokestatic 83, 3) := by decide +kernel
theorem dX6_firstPoint_50 : decode cX6_firstPoint 50 = .ok (.lor, 1) := by decide +kernel
theorem dX6_firstPoint_51 : decode cX6_firstPoint 51 = .ok (.lstore_n 1, 1) := by decide +kernel
theorem dX6_firstPoint_52 : decode cX6_firstPoint 52 = .ok (.goto 22, 3) := by decide +kernel
theorem dX6_firstPoint_55 : decode cX6_firstPoint 55 = .ok (.lload_n 1, 1) := by decide +kernel
theorem dX6_firstPoint_56 : decode cX6_firstPoint 56 = .ok (.aload_n 0, 1) := by decide +kernel
theorem dX6_firstPoint_57 : decode cX6_firstPoint 57 = .ok (.getfield 26, 3) := by decide +kernel
theorem dX6_firstPoint_60 : decode cX6_firstPoint 60 = .ok (.getfield 74, 3) := by decide +kernel
theorem dX6_firstPoint_63 : decode cX6_firstPoint 63 = .ok (.iload_n 3, 1) := by decide +kernel
theorem dX6_firstPoint_64 : decode cX6_firstPoint 64 = .ok (.aaload, 1) := by decide +kernel
theorem dX6_firstPoint_65 : decode cX6_firstPoint 65 = .ok (.getfield 87, 3) := by decide +kernel
theorem dX6_firstPoint_68 : decode cX6_firstPoint 68 = .ok (.iload_n 3, 1) := by decide +kernel
theorem dX6_firstPoint_69 : decode cX6_firstPoint 69 = .ok (.invokestatic 90, 3) := by decide +kernel
theorem dX6_firstPoint_72 : decode cX6_firstPoint 72 = .ok (.lor, 1) := by decide +kernel
theorem dX6_firstPoint_73 : decode cX6_firstPoint 73 = .ok (.lstore_n 1, 1) := by decide +kernel
theorem dX6_firstPoint_74 : decode cX6_firstPoint 74 = .ok (.iinc 3 1, 3) := by decide +kernel
theorem dX6_firstPoint_77 : decode cX6_firstPoint 77 = .ok (.goto (-64), 3) := by decide +kernel
theorem dX6_firstPoint_80 : decode cX6_firstPoint 80 = .ok (.lload_n 1, 1) := by decide +kernel
theorem dX6_firstPoint_81 : decode cX6_firstPoint 81 = .ok (.lreturn, 1) := by decide +kernel
theorem dX6_afterTransaction_0 : decode cX6_afterTransaction 0 = .ok (.aload_n 0, 1) := by decide +kernel
theorem dX6_afterTransaction_1 : decode cX6_afterTransaction 1 = .ok (.getfield 26, 3) := by decide +kernel
theorem dX6_afterTransaction_4 : decode cX6_afterTransaction 4 = .ok (.iload_n 3, 1) := by decide +kernel
theorem dX6_afterTransaction_5 : decode cX6_afterTransaction 5 = .ok (.invokevirtual 94, 3) := by decide +kernel
theorem dX6_afterTransaction_8 : decode cX6_afterTransaction 8 = .ok (.ifCond .ne 5, 3) := by decide +kernel
theorem dX6_afterTransaction_11 : decode cX6_afterTransaction 11 = .ok (.lload_n 1, 1) := by decide +kernel
theorem dX6_afterTransaction_12 : decode cX6_afterTransaction 12 = .ok (.lreturn, 1) := by decide +kernel
theorem dX6_afterTransaction_13 : decode cX6_afterTransaction 13 = .ok (.aload_n 0, 1) := by decide +kernel
theorem dX6_afterTransaction_14 : decode cX6_afterTransaction 14 = .ok (.getfield 26, 3) := by decide +kernel
theorem dX6_afterTransaction_17 : decode cX6_afterTransaction 17 = .ok (.getfield 74, 3) := by decide +kernel
theorem dX6_afterTransaction_20 : decode cX6_afterTransaction 20 = .ok (.iload_n 3, 1) := by decide +kernel
theorem dX6_afterTransaction_21 : decode cX6_afterTransaction 21 = .ok (.aaload, 1) := by decide +kernel
theorem dX6_afterTransaction_22 : decode cX6_afterTransaction 22 = .ok (.astore 4, 2) := by decide +kernel
theorem dX6_afterTransaction_24 : decode cX6_afterTransaction 24 = .ok (.aload_n 0, 1) := by decide +kernel
theorem dX6_afterTransaction_25 : decode cX6_afterTransaction 25 = .ok (.aload 4, 2) := by decide +kernel
theorem dX6_afterTransaction_27 : decode cX6_afterTransaction 27 = .ok (.lload_n 1, 1) := by decide +kernel
theorem dX6_afterTransaction_28 : decode cX6_afterTransaction 28 = .ok (.iload_n 3, 1) := by decide +kernel
theorem dX6_afterTransaction_29 : decode cX6_afterTransaction 29 = .ok (.invokevirtual 98, 3) := by decide +kernel
theorem dX6_afterTransaction_32 : decode cX6_afterTransaction 32 = .ok (.iconst 0, 1) := by decide +kernel
theorem dX6_afterTransaction_33 : decode cX6_afterTransaction 33 = .ok (.istore 5, 2) := by decide +kernel
theorem dX6_afterTransaction_35 : decode cX6_afterTransaction 35 = .ok (.iconst 0, 1) := by decide +kernel
theorem dX6_afterTransaction_36 : decode cX6_afterTransaction 36 = .ok (.istore 6, 2) := by decide +kernel
theorem dX6_afterTransaction_38 : decode cX6_afterTransaction 38 = .ok (.iload 6, 2) := by decide +kernel
theorem dX6_afterTransaction_40 : decode cX6_afterTransaction 40 = .ok (.bipush 60, 2) := by decide +kernel
theorem dX6_afterTransaction_42 : decode cX6_afterTransaction 42 = .ok (.if_icmp .ge 25, 3) := by decide +kernel
theorem dX6_afterTransaction_45 : decode cX6_afterTransaction 45 = .ok (.iload 5, 2) := by decide +kernel
theorem dX6_afterTransaction_47 : decode cX6_afterTransaction 47 = .ok (.ifCond .ne 20, 3) := by decide +kernel
theorem dX6_afterTransaction_50 : decode cX6_afterTransaction 50 = .ok (.aload_n 0, 1) := by decide +kernel
theorem dX6_afterTransaction_51 : decode cX6_afterTransaction 51 = .ok (.getfield 26, 3) := by decide +kernel
theorem dX6_afterTransaction_54 : decode cX6_afterTransaction 54 = .ok (.aload 4, 2) := by decide +kernel
theorem dX6_afterTransaction_56 : decode cX6_afterTransaction 56 = .ok (.invokevirtual 102, 3) := by decide +kernel
theorem dX6_afterTransaction_59 : decode cX6_afterTransaction 59 = .ok (.istore 5, 2) := by decide +kernel
theorem dX6_afterTransaction_61 : decode cX6_afterTransaction 61 = .ok (.iinc 6 1, 3) := by decide +kernel
theorem dX6_afterTransaction_64 : decode cX6_afterTransaction 64 = .ok (.goto (-26), 3) := by decide +kernel
theorem dX6_afterTransaction_67 : decode cX6_afterTransaction 67 = .ok (.iload 5, 2) := by decide +kernel
theorem dX6_afterTransaction_69 : decode cX6_afterTransaction 69 = .ok (.iconst 3, 1) := by decide +kernel
theorem dX6_afterTransaction_70 : decode cX6_afterTransaction 70 = .ok (.if_icmp .ne 10, 3) := by decide +kernel
theorem dX6_afterTransaction_73 : decode cX6_afterTransaction 73 = .ok (.lload_n 1, 1) := by decide +kernel
theorem dX6_afterTransaction_74 : decode cX6_afterTransaction 74 = .ok (.iload_n 3, 1) := by decide +kernel
theorem dX6_afterTransaction_75 : decode cX6_afterTransaction 75 = .ok (.invokestatic 106, 3) := by decide +kernel
theorem dX6_afterTransaction_78 : decode cX6_afterTransaction 78 = .ok (.lor, 1) := by decide +kernel
theorem dX6_afterTransaction_79 : decode cX6_afterTransaction 79 = .ok (.lreturn, 1) := by decide +kernel
theorem dX6_afterTransaction_80 : decode cX6_afterTransaction 80 = .ok (.iload 5, 2) := by decide +kernel
theorem dX6_afterTransaction_82 : decode cX6_afterTransaction 82 = .ok (.iconst 1, 1) := by decide +kernel
theorem dX6_afterTransaction_83 : decode cX6_afterTransaction 83 = .ok (.if_icmp .ne 10, 3) := by decide +kernel
theorem dX6_afterTransaction_86 : decode cX6_afterTransaction 86 = .ok (.aload_n 0, 1) := by decide +kernel
theorem dX6_afterTransaction_87 : decode cX6_afterTransaction 87 = .ok (.lload_n 1, 1) := by decide +kernel
theorem dX6_afterTransaction_88 : decode cX6_afterTransaction 88 = .ok (.iload_n 3, 1) := by decide +kernel
theorem dX6_afterTransaction_89 : decode cX6_afterTransaction 89 = .ok (.invokevirtual 109, 3) := by decide +kernel
theorem dX6_afterTransaction_92 : decode cX6_afterTransaction 92 = .ok (.lreturn, 1) := by decide +kernel
theorem dX6_afterTransaction_93 : decode cX6_afterTransaction 93 = .ok (.lload_n 1, 1) := by decide +kernel
theorem dX6_afterTransaction_94 : decode cX6_afterTransaction 94 = .ok (.iload_n 3, 1) := by decide +kernel
theorem dX6_afterTransaction_95 : decode cX6_afterTransaction 95 = .ok (.invokestatic 83, 3) := by decide +kernel
theorem dX6_afterTransaction_98 : decode cX6_afterTransaction 98 = .ok (.lor, 1) := by decide +kernel
theorem dX6_afterTransaction_99 : decode cX6_afterTransaction 99 = .ok (.lreturn, 1) := by decide +kernel
theorem dX6_prepare_0 : decode cX6_prepare 0 = .ok (.iconst 0, 1) := by decide +kernel
theorem dX6_prepare_1 : decode cX6_prepare 1 = .ok (.istore 5, 2) := by decide +kernel
theorem dX6_prepare_3 : decode cX6_prepare 3 = .ok (.iload 5, 2) := by decide +kernel
theorem dX6_prepare_5 : decode cX6_prepare 5 = .ok (.bipush 6, 2) := by decide +kernel
theorem dX6_prepare_7 : decode cX6_prepare 7 = .ok (.if_icmp .ge 36, 3) := by decide +kernel
theorem dX6_prepare_10 : decode cX6_prepare 10 = .ok (.aload_n 0, 1) := by decide +kernel
theorem dX6_prepare_11 : decode cX6_prepare 11 = .ok (.getfield 26, 3) := by decide +kernel
theorem dX6_prepare_14 : decode cX6_prepare 14 = .ok (.getfield 66, 3) := by decide +kernel
theorem dX6_prepare_17 : decode cX6_prepare 17 = .ok (.iload 5, 2) := by decide +kernel
theorem dX6_prepare_19 : decode cX6_prepare 19 = .ok (.lload_n 2, 1) := by decide +kernel
theorem dX6_prepare_20 : decode cX6_prepare 20 = .ok (.iload 5, 2) := by decide +kernel
theorem dX6_prepare_22 : decode cX6_prepare 22 = .ok (.invokestatic 112, 3) := by decide +kernel
theorem dX6_prepare_25 : decode cX6_prepare 25 = .ok (.iastore, 1) := by decide +kernel
theorem dX6_prepare_26 : decode cX6_prepare 26 = .ok (.aload_n 0, 1) := by decide +kernel
theorem dX6_prepare_27 : decode cX6_prepare 27 = .ok (.getfield 26, 3) := by decide +kernel
theorem dX6_prepare_30 : decode cX6_prepare 30 = .ok (.getfield 116, 3) := by decide +kernel
theorem dX6_prepare_33 : decode cX6_prepare 33 = .ok (.iload 5, 2) := by decide +kernel
theorem dX6_prepare_35 : decode cX6_prepare 35 = .ok (.iconst 0, 1) := by decide +kernel
theorem dX6_prepare_36 : decode cX6_prepare 36 = .ok (.iastore, 1) := by decide +kernel
theorem dX6_prepare_37 : decode cX6_prepare 37 = .ok (.iinc 5 1, 3) := by decide +kernel
theorem dX6_prepare_40 : decode cX6_prepare 40 = .ok (.goto (-37), 3) := by decide +kernel
theorem dX6_prepare_43 : decode cX6_prepare 43 = .ok (.aload_n 1, 1) := by decide +kernel
theorem dX6_prepare_44 : decode cX6_prepare 44 = .ok (.lload_n 2, 1) := by decide +kernel
theorem dX6_prepare_45 : decode cX6_prepare 45 = .ok (.iload 4, 2) := by decide +kernel
theorem dX6_prepare_47 : decode cX6_prepare 47 = .ok (.invokestatic 119, 3) := by decide +kernel
theorem dX6_prepare_50 : decode cX6_prepare 50 = .ok (.putfield 87, 3) := by decide +kernel
theorem dX6_prepare_53 : decode cX6_prepare 53 = .ok (.aload_n 1, 1) := by decide +kernel
theorem dX6_prepare_54 : decode cX6_prepare 54 = .ok (.iconst 0, 1) := by decide +kernel
theorem dX6_prepare_55 : decode cX6_prepare 55 = .ok (.invokevirtual 122, 3) := by decide +kernel
theorem dX6_prepare_58 : decode cX6_prepare 58 = .ok (.return_, 1) := by decide +kernel
theorem dX6_afterCommit_0 : decode cX6_afterCommit 0 = .ok (.lload_n 1, 1) := by decide +kernel
theorem dX6_afterCommit_1 : decode cX6_afterCommit 1 = .ok (.ldc2_w 126, 3) := by decide +kernel
theorem dX6_afterCommit_4 : decode cX6_afterCommit 4 = .ok (.land, 1) := by decide +kernel
theorem dX6_afterCommit_5 : decode cX6_afterCommit 5 = .ok (.iconst 1, 1) := by decide +kernel
theorem dX6_afterCommit_6 : decode cX6_afterCommit 6 = .ok (.iload_n 3, 1) := by decide +kernel
theorem dX6_afterCommit_7 : decode cX6_afterCommit 7 = .ok (.invokestatic 90, 3) := by decide +kernel
theorem dX6_afterCommit_10 : decode cX6_afterCommit 10 = .ok (.lsub, 1) := by decide +kernel
theorem dX6_afterCommit_11 : decode cX6_afterCommit 11 = .ok (.lstore 4, 2) := by decide +kernel
theorem dX6_afterCommit_13 : decode cX6_afterCommit 13 = .ok (.iconst 0, 1) := by decide +kernel
theorem dX6_afterCommit_14 : decode cX6_afterCommit 14 = .ok (.istore 6, 2) := by decide +kernel
theorem dX6_afterCommit_16 : decode cX6_afterCommit 16 = .ok (.iload 6, 2) := by decide +kernel
theorem dX6_afterCommit_18 : decode cX6_afterCommit 18 = .ok (.bipush 6, 2) := by decide +kernel
theorem dX6_afterCommit_20 : decode cX6_afterCommit 20 = .ok (.if_icmp .ge 30, 3) := by decide +kernel
theorem dX6_afterCommit_23 : decode cX6_afterCommit 23 = .ok (.aload_n 0, 1) := by decide +kernel
theorem dX6_afterCommit_24 : decode cX6_afterCommit 24 = .ok (.getfield 26, 3) := by decide +kernel
theorem dX6_afterCommit_27 : decode cX6_afterCommit 27 = .ok (.getfield 116, 3) := by decide +kernel
theorem dX6_afterCommit_30 : decode cX6_afterCommit 30 = .ok (.iload 6, 2) := by decide +kernel
theorem dX6_afterCommit_32 : decode cX6_afterCommit 32 = .ok (.iaload, 1) := by decide +kernel
theorem dX6_afterCommit_33 : decode cX6_afterCommit 33 = .ok (.ifCond .le 11, 3) := by decide +kernel
theorem dX6_afterCommit_36 : decode cX6_afterCommit 36 = .ok (.lload 4, 2) := by decide +kernel
theorem dX6_afterCommit_38 : decode cX6_afterCommit 38 = .ok (.ldc2_w 128, 3) := by decide +kernel
theorem dX6_afterCommit_41 : decode cX6_afterCommit 41 = .ok (.land, 1) := by decide +kernel
theorem dX6_afterCommit_42 : decode cX6_afterCommit 42 = .ok (.lstore 4, 2) := by decide +kernel
theorem dX6_afterCommit_44 : decode cX6_afterCommit 44 = .ok (.iinc 6 1, 3) := by decide +kernel
theorem dX6_afterCommit_47 : decode cX6_afterCommit 47 = .ok (.goto (-31), 3) := by decide +kernel
theorem dX6_afterCommit_50 : decode cX6_afterCommit 50 = .ok (.lload 4, 2) := by decide +kernel
theorem dX6_afterCommit_52 : decode cX6_afterCommit 52 = .ok (.aload_n 0, 1) := by decide +kernel
theorem dX6_afterCommit_53 : decode cX6_afterCommit 53 = .ok (.getfield 26, 3) := by decide +kernel
theorem dX6_afterCommit_56 : decode cX6_afterCommit 56 = .ok (.getfield 66, 3) := by decide +kernel
theorem dX6_afterCommit_59 : decode cX6_afterCommit 59 = .ok (.invokestatic 70, 3) := by decide +kernel
theorem dX6_afterCommit_62 : decode cX6_afterCommit 62 = .ok (.lor, 1) := by decide +kernel
theorem dX6_afterCommit_63 : decode cX6_afterCommit 63 = .ok (.lreturn, 1) := by decide +kernel
theorem dX6_canRun_0 : decode cX6_canRun 0 = .ok (.lload_n 0, 1) := by decide +kernel
theorem dX6_canRun_1 : decode cX6_canRun 1 = .ok (.iload_n 2, 1) := by decide +kernel
theorem dX6_canRun_2 : decode cX6_canRun 2 = .ok (.invokestatic 119, 3) := by decide +kernel
theorem dX6_canRun_5 : decode cX6_canRun 5 = .ok (.ifCond .le 23, 3) := by decide +kernel
theorem dX6_canRun_8 : decode cX6_canRun 8 = .ok (.lload_n 0, 1) := by decide +kernel
theorem dX6_canRun_9 : decode cX6_canRun 9 = .ok (.iload_n 2, 1) := by decide +kernel
theorem dX6_canRun_10 : decode cX6_canRun 10 = .ok (.invokestatic 83, 3) := by decide +kernel
theorem dX6_canRun_13 : decode cX6_canRun 13 = .ok (.iload_n 2, 1) := by decide +kernel
theorem dX6_canRun_14 : decode cX6_canRun 14 = .ok (.invokestatic 106, 3) := by decide +kernel
theorem dX6_canRun_17 : decode cX6_canRun 17 = .ok (.lor, 1) := by decide +kernel
theorem dX6_canRun_18 : decode cX6_canRun 18 = .ok (.land, 1) := by decide +kernel
theorem dX6_canRun_19 : decode cX6_canRun 19 = .ok (.lconst 0, 1) := by decide +kernel
theorem dX6_canRun_20 : decode cX6_canRun 20 = .ok (.lcmp, 1) := by decide +kernel
theorem dX6_canRun_21 : decode cX6_canRun 21 = .ok (.ifCond .ne 7, 3) := by decide +kernel
theorem dX6_canRun_24 : decode cX6_canRun 24 = .ok (.iconst 1, 1) := by decide +kernel
theorem dX6_canRun_25 : decode cX6_canRun 25 = .ok (.goto 4, 3) := by decide +kernel
theorem dX6_canRun_28 : decode cX6_canRun 28 = .ok (.iconst 0, 1) := by decide +kernel
theorem dX6_canRun_29 : decode cX6_canRun 29 = .ok (.ireturn, 1) := by decide +kernel
theorem dX6_runsAt_0 : decode cX6_runsAt 0 = .ok (.lload_n 0, 1) := by decide +kernel
theorem dX6_runsAt_1 : decode cX6_runsAt 1 = .ok (.bipush 48, 2) := by decide +kernel
theorem dX6_runsAt_3 : decode cX6_runsAt 3 = .ok (.iconst 2, 1) := by decide +kernel
theorem dX6_runsAt_4 : decode cX6_runsAt 4 = .ok (.iload_n 2, 1) := by decide +kernel
theorem dX6_runsAt_5 : decode cX6_runsAt 5 = .ok (.imul, 1) := by decide +kernel
theorem dX6_runsAt_6 : decode cX6_runsAt 6 = .ok (.iadd, 1) := by decide +kernel
theorem dX6_runsAt_7 : decode cX6_runsAt 7 = .ok (.lshr, 1) := by decide +kernel
theorem dX6_runsAt_8 : decode cX6_runsAt 8 = .ok (.ldc2_w 130, 3) := by decide +kernel
theorem dX6_runsAt_11 : decode cX6_runsAt 11 = .ok (.land, 1) := by decide +kernel
theorem dX6_runsAt_12 : decode cX6_runsAt 12 = .ok (.l2i, 1) := by decide +kernel
theorem dX6_runsAt_13 : decode cX6_runsAt 13 = .ok (.ireturn, 1) := by decide +kernel
theorem dX6_runBits_0 : decode cX6_runBits 0 = .ok (.iload_n 0, 1) := by decide +kernel
theorem dX6_runBits_1 : decode cX6_runBits 1 = .ok (.i2l, 1) := by decide +kernel
theorem dX6_runBits_2 : decode cX6_runBits 2 = .ok (.bipush 48, 2) := by decide +kernel
theorem dX6_runBits_4 : decode cX6_runBits 4 = .ok (.iconst 2, 1) := by decide +kernel
theorem dX6_runBits_5 : decode cX6_runBits 5 = .ok (.iload_n 1, 1) := by decide +kernel
theorem dX6_runBits_6 : decode cX6_runBits 6 = .ok (.imul, 1) := by decide +kernel
theorem dX6_runBits_7 : decode cX6_runBits 7 = .ok (.iadd, 1) := by decide +kernel
theorem dX6_runBits_8 : decode cX6_runBits 8 = .ok (.lshl, 1) := by decide +kernel
theorem dX6_runBits_9 : decode cX6_runBits 9 = .ok (.lreturn, 1) := by decide +kernel
theorem dX6_failedBit_0 : decode cX6_failedBit 0 = .ok (.lconst 1, 1) := by decide +kernel
theorem dX6_failedBit_1 : decode cX6_failedBit 1 = .ok (.bipush 54, 2) := by decide +kernel
theorem dX6_failedBit_3 : decode cX6_failedBit 3 = .ok (.iload_n 0, 1) := by decide +kernel
theorem dX6_failedBit_4 : decode cX6_failedBit 4 = .ok (.iadd, 1) := by decide +kernel
theorem dX6_failedBit_5 : decode cX6_failedBit 5 = .ok (.lshl, 1) := by decide +kernel
theorem dX6_failedBit_6 : decode cX6_failedBit 6 = .ok (.lreturn, 1) := by decide +kernel
theorem dX6_blockedBit_0 : decode cX6_blockedBit 0 = .ok (.lconst 1, 1) := by decide +kernel
theorem dX6_blockedBit_1 : decode cX6_blockedBit 1 = .ok (.bipush 57, 2) := by decide +kernel
theorem dX6_blockedBit_3 : decode cX6_blockedBit 3 = .ok (.iload_n 0, 1) := by decide +kernel
theorem dX6_blockedBit_4 : decode cX6_blockedBit 4 = .ok (.iadd, 1) := by decide +kernel
theorem dX6_blockedBit_5 : decode cX6_blockedBit 5 = .ok (.lshl, 1) := by decide +kernel
theorem dX6_blockedBit_6 : decode cX6_blockedBit 6 = .ok (.lreturn, 1) := by decide +kernel
theorem dX6_valueBits_0 : decode cX6_valueBits 0 = .ok (.lconst 0, 1) := by decide +kernel
theorem dX6_valueBits_1 : decode cX6_valueBits 1 = .ok (.lstore_n 1, 1) := by decide +kernel
theorem dX6_valueBits_2 : decode cX6_valueBits 2 = .ok (.iconst 0, 1) := by decide +kernel
theorem dX6_valueBits_3 : decode cX6_valueBits 3 = .ok (.istore_n 3, 1) := by decide +kernel
theorem dX6_valueBits_4 : decode cX6_valueBits 4 = .ok (.iload_n 3, 1) := by decide +kernel
theorem dX6_valueBits_5 : decode cX6_valueBits 5 = .ok (.bipush 6, 2) := by decide +kernel
theorem dX6_valueBits_7 : decode cX6_valueBits 7 = .ok (.if_icmp .ge 30, 3) := by decide +kernel
theorem dX6_valueBits_10 : decode cX6_valueBits 10 = .ok (.iload_n 3, 1) := by decide +kernel
theorem dX6_valueBits_11 : decode cX6_valueBits 11 = .ok (.aload_n 0, 1) := by decide +kernel
theorem dX6_valueBits_12 : decode cX6_valueBits 12 = .ok (.arraylength, 1) := by decide +kernel
theorem dX6_valueBits_13 : decode cX6_valueBits 13 = .ok (.if_icmp .ge 24, 3) := by decide +kernel
theorem dX6_valueBits_16 : decode cX6_valueBits 16 = .ok (.lload_n 1, 1) := by decide +kernel
theorem dX6_valueBits_17 : decode cX6_valueBits 17 = .ok (.aload_n 0, 1) := by decide +kernel
theorem dX6_valueBits_18 : decode cX6_valueBits 18 = .ok (.iload_n 3, 1) := by decide +kernel
theorem dX6_valueBits_19 : decode cX6_valueBits 19 = .ok (.iaload, 1) := by decide +kernel
theorem dX6_valueBits_20 : decode cX6_valueBits 20 = .ok (.bipush 99, 2) := by decide +kernel
theorem dX6_valueBits_22 : decode cX6_valueBits 22 = .ok (.iadd, 1) := by decide +kernel
theorem dX6_valueBits_23 : decode cX6_valueBits 23 = .ok (.i2l, 1) := by decide +kernel
theorem dX6_valueBits_24 : decode cX6_valueBits 24 = .ok (.bipush 8, 2) := by decide +kernel
theorem dX6_valueBits_26 : decode cX6_valueBits 26 = .ok (.iload_n 3, 1) := by decide +kernel
theorem dX6_valueBits_27 : decode cX6_valueBits 27 = .ok (.imul, 1) := by decide +kernel
theorem dX6_valueBits_28 : decode cX6_valueBits 28 = .ok (.lshl, 1) := by decide +kernel
theorem dX6_valueBits_29 : decode cX6_valueBits 29 = .ok (.lor, 1) := by decide +kernel
theorem dX6_valueBits_30 : decode cX6_valueBits 30 = .ok (.lstore_n 1, 1) := by decide +kernel
theorem dX6_valueBits_31 : decode cX6_valueBits 31 = .ok (.iinc 3 1, 3) := by decide +kernel
theorem dX6_valueBits_34 : decode cX6_valueBits 34 = .ok (.goto (-30), 3) := by decide +kernel
theorem dX6_valueBits_37 : decode cX6_valueBits 37 = .ok (.lload_n 1, 1) := by decide +kernel
theorem dX6_valueBits_38 : decode cX6_valueBits 38 = .ok (.lreturn, 1) := by decide +kernel
theorem dX6_cellValue_0 : decode cX6_cellValue 0 = .ok (.lload_n 0, 1) := by decide +kernel
theorem dX6_cellValue_1 : decode cX6_cellValue 1 = .ok (.bipush 8, 2) := by decide +kernel
theorem dX6_cellValue_3 : decode cX6_cellValue 3 = .ok (.iload_n 2, 1) := by decide +kernel
theorem dX6_cellValue_4 : decode cX6_cellValue 4 = .ok (.imul, 1) := by decide +kernel
theorem dX6_cellValue_5 : decode cX6_cellValue 5 = .ok (.lshr, 1) := by decide +kernel
theorem dX6_cellValue_6 : decode cX6_cellValue 6 = .ok (.ldc2_w 132, 3) := by decide +kernel
theorem dX6_cellValue_9 : decode cX6_cellValue 9 = .ok (.land, 1) := by decide +kernel
theorem dX6_cellValue_10 : decode cX6_cellValue 10 = .ok (.l2i, 1) := by decide +kernel
theorem dX6_cellValue_11 : decode cX6_cellValue 11 = .ok (.bipush 99, 2) := by decide +kernel
theorem dX6_cellValue_13 : decode cX6_cellValue 13 = .ok (.isub, 1) := by decide +kernel
theorem dX6_cellValue_14 : decode cX6_cellValue 14 = .ok (.ireturn, 1) := by decide +kernel
theorem dX7_init_0 : decode cX7_init 0 = .ok (.aload_n 0, 1) := by decide +kernel
theorem dX7_init_1 : decode cX7_init 1 = .ok (.invokespecial 3, 3) := by decide +kernel
theorem dX7_init_4 : decode cX7_init 4 = .ok (.aload_n 0, 1) := by decide +kernel
theorem dX7_init_5 : decode cX7_init 5 = .ok (.iconst 3, 1) := by decide +kernel
theorem dX7_init_6 : decode cX7_init 6 = .ok (.newarray .char, 2) := by decide +kernel
theorem dX7_init_8 : decode cX7_init 8 = .ok (.putfield 9, 3) := by decide +kernel
theorem dX7_init_11 : decode cX7_init 11 = .ok (.return_, 1) := by decide +kernel
theorem dX7_begin_0 : decode cX7_begin 0 = .ok (.aload_n 0, 1) := by decide +kernel
theorem dX7_begin_1 : decode cX7_begin 1 = .ok (.iconst 0, 1) := by decide +kernel
theorem dX7_begin_2 : decode cX7_begin 2 = .ok (.putfield 15, 3) := by decide +kernel
theorem dX7_begin_5 : decode cX7_begin 5 = .ok (.aload_n 0, 1) := by decide +kernel
theorem dX7_begin_6 : decode cX7_begin 6 = .ok (.iconst 0, 1) := by decide +kernel
theorem dX7_begin_7 : decode cX7_begin 7 = .ok (.putfield 19, 3) := by decide +kernel
theorem dX7_begin_10 : decode cX7_begin 10 = .ok (.aload_n 0, 1) := by decide +kernel
theorem dX7_begin_11 : decode cX7_begin 11 = .ok (.iconst 0, 1) := by decide +kernel
theorem dX7_begin_12 : decode cX7_begin 12 = .ok (.putfield 22, 3) := by decide +kernel
theorem dX7_begin_15 : decode cX7_begin 15 = .ok (.aload_n 0, 1) := by decide +kernel
theorem dX7_begin_16 : decode cX7_begin 16 = .ok (.iconst 0, 1) := by decide +kernel
theorem dX7_begin_17 : decode cX7_begin 17 = .ok (.putfield 25, 3) := by decide +kernel
theorem dX7_begin_20 : decode cX7_begin 20 = .ok (.return_, 1) := by decide +kernel
theorem dX7_isComplete_0 : decode cX7_isComplete 0 = .ok (.aload_n 0, 1) := by decide +kernel
theorem dX7_isComplete_1 : decode cX7_isComplete 1 = .ok (.getfield 15, 3) := by decide +kernel
theorem dX7_isComplete_4 : decode cX7_isComplete 4 = .ok (.iconst 2, 1) := by decide +kernel
theorem dX7_isComplete_5 : decode cX7_isComplete 5 = .ok (.if_icmp .ne 14, 3) := by decide +kernel
theorem dX7_isComplete_8 : decode cX7_isComplete 8 = .ok (.aload_n 0, 1) := by decide +kernel
theorem dX7_isComplete_9 : decode cX7_isComplete 9 = .ok (.getfield 22, 3) := by decide +kernel
theorem dX7_isComplete_12 : decode cX7_isComplete 12 = .ok (.ifCond .le 7, 3) := by decide +kernel
theorem dX7_isComplete_15 : decode cX7_isComplete 15 = .ok (.iconst 1, 1) := by decide +kernel
theorem dX7_isComplete_16 : decode cX7_isComplete 16 = .ok (.goto 4, 3) := by decide +kernel
theorem dX7_isComplete_19 : decode cX7_isComplete 19 = .ok (.iconst 0, 1) := by decide +kernel
theorem dX7_isComplete_20 : decode cX7_isComplete 20 = .ok (.ireturn, 1) := by decide +kernel
theorem dX7_takes_0 : decode cX7_takes 0 = .ok (.aload_n 0, 1) := by decide +kernel
theorem dX7_takes_1 : decode cX7_takes 1 = .ok (.getfield 15, 3) := by decide +kernel
theorem dX7_takes_4 : decode cX7_takes 4 = .ok (.tableswitch 201 0 6 #[44, 61, 107, 132, 201, 155, 178], 44) := by decide +kernel
theorem dX7_takes_48 : decode cX7_takes 48 = .ok (.aload_n 0, 1) := by decide +kernel
theorem dX7_takes_49 : decode cX7_takes 49 = .ok (.iconst 1, 1) := by decide +kernel
theorem dX7_takes_50 : decode cX7_takes 50 = .ok (.putfield 15, 3) := by decide +kernel
theorem dX7_takes_53 : decode cX7_takes 53 = .ok (.iload_n 1, 1) := by decide +kernel
theorem dX7_takes_54 : decode cX7_takes 54 = .ok (.bipush 77, 2) := by decide +kernel
theorem dX7_takes_56 : decode cX7_takes 56 = .ok (.if_icmp .ne 7, 3) := by decide +kernel
theorem dX7_takes_59 : decode cX7_takes 59 = .ok (.iconst 1, 1) := by decide +kernel
theorem dX7_takes_60 : decode cX7_takes 60 = .ok (.goto 4, 3) := by decide +kernel
theorem dX7_takes_63 : decode cX7_takes 63 = .ok (.iconst 0, 1) := by decide +kernel
theorem dX7_takes_64 : decode cX7_takes 64 = .ok (.ireturn, 1) := by decide +kernel
theorem dX7_takes_65 : decode cX7_takes 65 = .ok (.aload_n 0, 1) := by decide +kernel
theorem dX7_takes_66 : decode cX7_takes 66 = .ok (.dup, 1) := by decide +kernel
theorem dX7_takes_67 : decode cX7_takes 67 = .ok (.getfield 19, 3) := by decide +kernel
theorem dX7_takes_70 : decode cX7_takes 70 = .ok (.iconst 1, 1) := by decide +kernel
theorem dX7_takes_71 : decode cX7_takes 71 = .ok (.iadd, 1) := by decide +kernel
theorem dX7_takes_72 : decode cX7_takes 72 = .ok (.putfield 19, 3) := by decide +kernel
theorem dX7_takes_75 : decode cX7_takes 75 = .ok (.aload_n 0, 1) := by decide +kernel
theorem dX7_takes_76 : decode cX7_takes 76 = .ok (.aload_n 0, 1) := by decide +kernel
theorem dX7_takes_77 : decode cX7_takes 77 = .ok (.getfield 19, 3) := by decide +kernel
theorem dX7_takes_80 : decode cX7_takes 80 = .ok (.bipush 6, 2) := by decide +kernel
theorem dX7_takes_82 : decode cX7_takes 82 = .ok (.if_icmp .ge 7, 3) := by decide +kernel
theorem dX7_takes_85 : decode cX7_takes 85 = .ok (.iconst 1, 1) := by decide +kernel
theorem dX7_takes_86 : decode cX7_takes 86 = .ok (.goto 4, 3) := by decide +kernel
theorem dX7_takes_89 : decode cX7_takes 89 = .ok (.iconst 2, 1) := by decide +kernel
theorem dX7_takes_90 : decode cX7_takes 90 = .ok (.putfield 15, 3) := by decide +kernel
theorem dX7_takes_93 : decode cX7_takes 93 = .ok (.iload_n 1, 1) := by decide +kernel
theorem dX7_takes_94 : decode cX7_takes 94 = .ok (.bipush 48, 2) := by decide +kernel
theorem dX7_takes_96 : decode cX7_takes 96 = .ok (.if_icmp .lt 13, 3) := by decide +kernel
theorem dX7_takes_99 : decode cX7_takes 99 = .ok (.iload_n 1, 1) := by decide +kernel
theorem dX7_takes_100 : decode cX7_takes 100 = .ok (.bipush 57, 2) := by decide +kernel
theorem dX7_takes_102 : decode cX7_takes 102 = .ok (.if_icmp .gt 7, 3) := by decide +kernel
theorem dX7_takes_105 : decode cX7_takes 105 = .ok (.iconst 1, 1) := by decide +kernel
theorem dX7_takes_106 : decode cX7_takes 106 = .ok (.goto 4, 3) := by decide +kernel
theorem dX7_takes_109 : decode cX7_takes 109 = .ok (.iconst 0, 1) := by decide +kernel
theorem dX7_takes_110 : decode cX7_takes 110 = .ok (.ireturn, 1) := by decide +kernel
theorem dX7_takes_111 : decode cX7_takes 111 = .ok (.aload_n 0, 1) := by decide +kernel
theorem dX7_takes_112 : decode cX7_takes 112 = .ok (.iconst 3, 1) := by decide +kernel
theorem dX7_takes_113 : decode cX7_takes 113 = .ok (.putfield 15, 3) := by decide +kernel
theorem dX7_takes_116 : decode cX7_takes 116 = .ok (.iload_n 1, 1) := by decide +kernel
theorem dX7_takes_117 : decode cX7_takes 117 = .ok (.bipush 116, 2) := by decide +kernel
theorem dX7_takes_119 : decode cX7_takes 119 = .ok (.if_icmp .ne 15, 3) := by decide +kernel
theorem dX7_takes_122 : decode cX7_takes 122 = .ok (.aload_n 0, 1) := by decide +kernel
theorem dX7_takes_123 : decode cX7_takes 123 = .ok (.getfield 22, 3) := by decide +kernel
theorem dX7_takes_126 : decode cX7_takes 126 = .ok (.iconst 3, 1) := by decide +kernel
theorem dX7_takes_127 : decode cX7_takes 127 = .ok (.if_icmp .ge 7, 3) := by decide +kernel
theorem dX7_takes_130 : decode cX7_takes 130 = .ok (.iconst 1, 1) := by decide +kernel
theorem dX7_takes_131 : decode cX7_takes 131 = .ok (.goto 4, 3) := by decide +kernel
theorem dX7_takes_134 : decode cX7_takes 134 = .ok (.iconst 0, 1) := by decide +kernel
theorem dX7_takes_135 : decode cX7_takes 135 = .ok (.ireturn, 1) := by decide +kernel
theorem dX7_takes_136 : decode cX7_takes 136 = .ok (.aload_n 0, 1) := by decide +kernel
theorem dX7_takes_137 : decode cX7_takes 137 = .ok (.iconst 4, 1) := by decide +kernel
theorem dX7_takes_138 : decode cX7_takes 138 = .ok (.putfield 15, 3) := by decide +kernel
theorem dX7_takes_141 : decode cX7_takes 141 = .ok (.iload_n 1, 1) := by decide +kernel
theorem dX7_takes_142 : decode cX7_takes 142 = .ok (.bipush 49, 2) := by decide +kernel
theorem dX7_takes_144 : decode cX7_takes 144 = .ok (.if_icmp .eq 9, 3) := by decide +kernel
theorem dX7_takes_147 : decode cX7_takes 147 = .ok (.iload_n 1, 1) := by decide +kernel
theorem dX7_takes_148 : decode cX7_takes 148 = .ok (.bipush 50, 2) := by decide +kernel
theorem dX7_takes_150 : decode cX7_takes 150 = .ok (.if_icmp .ne 7, 3) := by decide +kernel
theorem dX7_takes_153 : decode cX7_takes 153 = .ok (.iconst 1, 1) := by decide +kernel
theorem dX7_takes_154 : decode cX7_takes 154 = .ok (.goto 4, 3) := by decide +kernel
theorem dX7_takes_157 : decode cX7_takes 157 = .ok (.iconst 0, 1) := by decide +kernel
theorem dX7_takes_158 : decode cX7_takes 158 = .ok (.ireturn, 1) := by decide +kernel
theorem dX7_takes_159 : decode cX7_takes 159 = .ok (.aload_n 0, 1) := by decide +kernel
theorem dX7_takes_160 : decode cX7_takes 160 = .ok (.iconst 4, 1) := by decide +kernel
theorem dX7_takes_161 : decode cX7_takes 161 = .ok (.putfield 15, 3) := by decide +kernel
theorem dX7_takes_164 : decode cX7_takes 164 = .ok (.iload_n 1, 1) := by decide +kernel
theorem dX7_takes_165 : decode cX7_takes 165 = .ok (.bipush 48, 2) := by decide +kernel
theorem dX7_takes_167 : decode cX7_takes 167 = .ok (.if_icmp .lt 13, 3) := by decide +kernel
theorem dX7_takes_170 : decode cX7_takes 170 = .ok (.iload_n 1, 1) := by decide +kernel
theorem dX7_takes_171 : decode cX7_takes 171 = .ok (.bipush 54, 2) := by decide +kernel
theorem dX7_takes_173 : decode cX7_takes 173 = .ok (.if_icmp .ge 7, 3) := by decide +kernel
theorem dX7_takes_176 : decode cX7_takes 176 = .ok (.iconst 1, 1) := by decide +kernel
theorem dX7_takes_177 : decode cX7_takes 177 = .ok (.goto 4, 3) := by decide +kernel
theorem dX7_takes_180 : decode cX7_takes 180 = .ok (.iconst 0, 1) := by decide +kernel
theorem dX7_takes_181 : decode cX7_takes 181 = .ok (.ireturn, 1) := by decide +kernel
theorem dX7_takes_182 : decode cX7_takes 182 = .ok (.aload_n 0, 1) := by decide +kernel
theorem dX7_takes_183 : decode cX7_takes 183 = .ok (.iconst 4, 1) := by decide +kernel
theorem dX7_takes_184 : decode cX7_takes 184 = .ok (.putfield 15, 3) := by decide +kernel
theorem dX7_takes_187 : decode cX7_takes 187 = .ok (.iload_n 1, 1) := by decide +kernel
theorem dX7_takes_188 : decode cX7_takes 188 = .ok (.bipush 48, 2) := by decide +kernel
theorem dX7_takes_190 : decode cX7_takes 190 = .ok (.if_icmp .lt 13, 3) := by decide +kernel
theorem dX7_takes_193 : decode cX7_takes 193 = .ok (.iload_n 1, 1) := by decide +kernel
theorem dX7_takes_194 : decode cX7_takes 194 = .ok (.bipush 57, 2) := by decide +kernel
theorem dX7_takes_196 : decode cX7_takes 196 = .ok (.if_icmp .gt 7, 3) := by decide +kernel
theorem dX7_takes_199 : decode cX7_takes 199 = .ok (.iconst 1, 1) := by decide +kernel
theorem dX7_takes_200 : decode cX7_takes 200 = .ok (.goto 4, 3) := by decide +kernel
theorem dX7_takes_203 : decode cX7_takes 203 = .ok (.iconst 0, 1) := by decide +kernel
theorem dX7_takes_204 : decode cX7_takes 204 = .ok (.ireturn, 1) := by decide +kernel
theorem dX7_takes_205 : decode cX7_takes 205 = .ok (.aload_n 0, 1) := by decide +kernel
theorem dX7_takes_206 : decode cX7_takes 206 = .ok (.iload_n 1, 1) := by decide +kernel
theorem dX7_takes_207 : decode cX7_takes 207 = .ok (.invokevirtual 28, 3) := by decide +kernel
theorem dX7_takes_210 : decode cX7_takes 210 = .ok (.ireturn, 1) := by decide +kernel
theorem dX7_takesToken_0 : decode cX7_takesToken 0 = .ok (.iload_n 1, 1) := by decide +kernel
theorem dX7_takesToken_1 : decode cX7_takesToken 1 = .ok (.invokestatic 32, 3) := by decide +kernel
theorem dX7_takesToken_4 : decode cX7_takesToken 4 = .ok (.ifCond .eq 10, 3) := by decide +kernel
theorem dX7_takesToken_7 : decode cX7_takesToken 7 = .ok (.aload_n 0, 1) := by decide +kernel
theorem dX7_takesToken_8 : decode cX7_takesToken 8 = .ok (.iconst 5, 1) := by decide +kernel
theorem dX7_takesToken_9 : decode cX7_takesToken 9 = .ok (.putfield 15, 3) := by decide +kernel
theorem dX7_takesToken_12 : decode cX7_takesToken 12 = .ok (.iconst 1, 1) := by decide +kernel
theorem dX7_takesToken_13 : decode cX7_takesToken 13 = .ok (.ireturn, 1) := by decide +kernel
theorem dX7_takesToken_14 : decode cX7_takesToken 14 = .ok (.iload_n 1, 1) := by decide +kernel
theorem dX7_takesToken_15 : decode cX7_takesToken 15 = .ok (.invokestatic 35, 3) := by decide +kernel
theorem dX7_takesToken_18 : decode cX7_takesToken 18 = .ok (.ifCond .eq 11, 3) := by decide +kernel
theorem dX7_takesToken_21 : decode cX7_takesToken 21 = .ok (.aload_n 0, 1) := by decide +kernel
theorem dX7_takesToken_22 : decode cX7_takesToken 22 = .ok (.bipush 6, 2) := by decide +kernel
theorem dX7_takesToken_24 : decode cX7_takesToken 24 = .ok (.putfield 15, 3) := by decide +kernel
theorem dX7_takesToken_27 : decode cX7_takesToken 27 = .ok (.iconst 1, 1) := by decide +kernel
theorem dX7_takesToken_28 : decode cX7_takesToken 28 = .ok (.ireturn, 1) := by decide +kernel
theorem dX7_takesToken_29 : decode cX7_takesToken 29 = .ok (.iload_n 1, 1) := by decide +kernel
theorem dX7_takesToken_30 : decode cX7_takesToken 30 = .ok (.lookupswitch 148 #[(33, 74), (40, 76), (41, 114), (46, 120), (120, 74), (123, 83), (124, 90), (125, 114)], 74) := by decide +kernel
theorem dX7_takesToken_104 : decode cX7_takesToken 104 = .ok (.iconst 1, 1) := by decide +kernel
theorem dX7_takesToken_105 : decode cX7_takesToken 105 = .ok (.ireturn, 1) := by decide +kernel
theorem dX7_takesToken_106 : decode cX7_takesToken 106 = .ok (.aload_n 0, 1) := by decide +kernel
theorem dX7_takesToken_107 : decode cX7_takesToken 107 = .ok (.bipush 124, 2) := by decide +kernel
theorem dX7_takesToken_109 : decode cX7_takesToken 109 = .ok (.invokevirtual 38, 3) := by decide +kernel
theorem dX7_takesToken_112 : decode cX7_takesToken 112 = .ok (.ireturn, 1) := by decide +kernel
theorem dX7_takesToken_113 : decode cX7_takesToken 113 = .ok (.aload_n 0, 1) := by decide +kernel
theorem dX7_takesToken_114 : decode cX7_takesToken 114 = .ok (.bipush 125, 2) := by decide +kernel
theorem dX7_takesToken_116 : decode cX7_takesToken 116 = .ok (.invokevirtual 38, 3) := by decide +kernel
theorem dX7_takesToken_119 : decode cX7_takesToken 119 = .ok (.ireturn, 1) := by decide +kernel
theorem dX7_takesToken_120 : decode cX7_takesToken 120 = .ok (.aload_n 0, 1) := by decide +kernel
theorem dX7_takesToken_121 : decode cX7_takesToken 121 = .ok (.bipush 124, 2) := by decide +kernel
theorem dX7_takesToken_123 : decode cX7_takesToken 123 = .ok (.invokevirtual 41, 3) := by decide +kernel
theorem dX7_takesToken_126 : decode cX7_takesToken 126 = .ok (.ifCond .eq 16, 3) := by decide +kernel
theorem dX7_takesToken_129 : decode cX7_takesToken 129 = .ok (.aload_n 0, 1) := by decide +kernel
theorem dX7_takesToken_130 : decode cX7_takesToken 130 = .ok (.bipush 41, 2) := by decide +kernel
theorem dX7_takesToken_132 : decode cX7_takesToken 132 = .ok (.invokevirtual 38, 3) := by decide +kernel
theorem dX7_takesToken_135 : decode cX7_takesToken 135 = .ok (.ifCond .eq 7, 3) := by decide +kernel
theorem dX7_takesToken_138 : decode cX7_takesToken 138 = .ok (.iconst 1, 1) := by decide +kernel
theorem dX7_takesToken_139 : decode cX7_takesToken 139 = .ok (.goto 4, 3) := by decide +kernel
theorem dX7_takesToken_142 : decode cX7_takesToken 142 = .ok (.iconst 0, 1) := by decide +kernel
theorem dX7_takesToken_143 : decode cX7_takesToken 143 = .ok (.ireturn, 1) := by decide +kernel
theorem dX7_takesToken_144 : decode cX7_takesToken 144 = .ok (.aload_n 0, 1) := by decide +kernel
theorem dX7_takesToken_145 : decode cX7_takesToken 145 = .ok (.iload_n 1, 1) := by decide +kernel
theorem dX7_takesToken_146 : decode cX7_takesToken 146 = .ok (.invokevirtual 41, 3) := by decide +kernel
theorem dX7_takesToken_149 : decode cX7_takesToken 149 = .ok (.ireturn, 1) := by decide +kernel
theorem dX7_takesToken_150 : decode cX7_takesToken 150 = .ok (.aload_n 0, 1) := by decide +kernel
theorem dX7_takesToken_151 : decode cX7_takesToken 151 = .ok (.iconst 2, 1) := by decide +kernel
theorem dX7_takesToken_152 : decode cX7_takesToken 152 = .ok (.putfield 15, 3) := by decide +kernel
theorem dX7_takesToken_155 : decode cX7_takesToken 155 = .ok (.aload_n 0, 1) := by decide +kernel
theorem dX7_takesToken_156 : decode cX7_takesToken 156 = .ok (.dup, 1) := by decide +kernel
theorem dX7_takesToken_157 : decode cX7_takesToken 157 = .ok (.getfield 22, 3) := by decide +kernel
theorem dX7_takesToken_160 : decode cX7_takesToken 160 = .ok (.iconst 1, 1) := by decide +kernel
theorem dX7_takesToken_161 : decode cX7_takesToken 161 = .ok (.iadd, 1) := by decide +kernel
theorem dX7_takesToken_162 : decode cX7_takesToken 162 = .ok (.putfield 22, 3) := by decide +kernel
theorem dX7_takesToken_165 : decode cX7_takesToken 165 = .ok (.aload_n 0, 1) := by decide +kernel
theorem dX7_takesToken_166 : decode cX7_takesToken 166 = .ok (.getfield 25, 3) := by decide +kernel
theorem dX7_takesToken_169 : decode cX7_takesToken 169 = .ok (.ifCond .ne 7, 3) := by decide +kernel
theorem dX7_takesToken_172 : decode cX7_takesToken 172 = .ok (.iconst 1, 1) := by decide +kernel
theorem dX7_takesToken_173 : decode cX7_takesToken 173 = .ok (.goto 4, 3) := by decide +kernel
theorem dX7_takesToken_176 : decode cX7_takesToken 176 = .ok (.iconst 0, 1) := by decide +kernel
theorem dX7_takesToken_177 : decode cX7_takesToken 177 = .ok (.ireturn, 1) := by decide +kernel
theorem dX7_takesToken_178 : decode cX7_takesToken 178 = .ok (.iconst 0, 1) := by decide +kernel
theorem dX7_takesToken_179 : decode cX7_takesToken 179 = .ok (.ireturn, 1) := by decide +kernel
theorem dX7_opens_0 : decode cX7_opens 0 = .ok (.aload_n 0, 1) := by decide +kernel
theorem dX7_opens_1 : decode cX7_opens 1 = .ok (.getfield 25, 3) := by decide +kernel
theorem dX7_opens_4 : decode cX7_opens 4 = .ok (.ifCond .lt 11, 3) := by decide +kernel
theorem dX7_opens_7 : decode cX7_opens 7 = .ok (.aload_n 0, 1) := by decide +kernel
theorem dX7_opens_8 : decode cX7_opens 8 = .ok (.getfield 25, 3) := by decide +kernel
theorem dX7_opens_11 : decode cX7_opens 11 = .ok (.iconst 3, 1) := by decide +kernel
theorem dX7_opens_12 : decode cX7_opens 12 = .ok (.if_icmp .lt 5, 3) := by decide +kernel
theorem dX7_opens_15 : decode cX7_opens 15 = .ok (.iconst 0, 1) := by decide +kernel
theorem dX7_opens_16 : decode cX7_opens 16 = .ok (.ireturn, 1) := by decide +kernel
theorem dX7_opens_17 : decode cX7_opens 17 = .ok (.aload_n 0, 1) := by decide +kernel
theorem dX7_opens_18 : decode cX7_opens 18 = .ok (.getfield 9, 3) := by decide +kernel
theorem dX7_opens_21 : decode cX7_opens 21 = .ok (.aload_n 0, 1) := by decide +kernel
theorem dX7_opens_22 : decode cX7_opens 22 = .ok (.getfield 25, 3) := by decide +kernel
theorem dX7_opens_25 : decode cX7_opens 25 = .ok (.iload_n 1, 1) := by decide +kernel
theorem dX7_opens_26 : decode cX7_opens 26 = .ok (.castore, 1) := by decide +kernel
theorem dX7_opens_27 : decode cX7_opens 27 = .ok (.aload_n 0, 1) := by decide +kernel
theorem dX7_opens_28 : decode cX7_opens 28 = .ok (.dup, 1) := by decide +kernel
theorem dX7_opens_29 : decode cX7_opens 29 = .ok (.getfield 25, 3) := by decide +kernel
theorem dX7_opens_32 : decode cX7_opens 32 = .ok (.iconst 1, 1) := by decide +kernel
theorem dX7_opens_33 : decode cX7_opens 33 = .ok (.iadd, 1) := by decide +kernel
theorem dX7_opens_34 : decode cX7_opens 34 = .ok (.putfield 25, 3) := by decide +kernel
theorem dX7_opens_37 : decode cX7_opens 37 = .ok (.iconst 1, 1) := by decide +kernel
theorem dX7_opens_38 : decode cX7_opens 38 = .ok (.ireturn, 1) := by decide +kernel
theorem dX7_closes_0 : decode cX7_closes 0 = .ok (.aload_n 0, 1) := by decide +kernel
theorem dX7_closes_1 : decode cX7_closes 1 = .ok (.getfield 25, 3) := by decide +kernel
theorem dX7_closes_4 : decode cX7_closes 4 = .ok (.iconst 1, 1) := by decide +kernel
theorem dX7_closes_5 : decode cX7_closes 5 = .ok (.if_icmp .lt 26, 3) := by decide +kernel
theorem dX7_closes_8 : decode cX7_closes 8 = .ok (.aload_n 0, 1) := by decide +kernel
theorem dX7_closes_9 : decode cX7_closes 9 = .ok (.getfield 25, 3) := by decide +kernel
theorem dX7_closes_12 : decode cX7_closes 12 = .ok (.iconst 3, 1) := by decide +kernel
theorem dX7_closes_13 : decode cX7_closes 13 = .ok (.if_icmp .gt 18, 3) := by decide +kernel
theorem dX7_closes_16 : decode cX7_closes 16 = .ok (.aload_n 0, 1) := by decide +kernel
theorem dX7_closes_17 : decode cX7_closes 17 = .ok (.getfield 9, 3) := by decide +kernel
theorem dX7_closes_20 : decode cX7_closes 20 = .ok (.aload_n 0, 1) := by decide +kernel
theorem dX7_closes_21 : decode cX7_closes 21 = .ok (.getfield 25, 3) := by decide +kernel
theorem dX7_closes_24 : decode cX7_closes 24 = .ok (.iconst 1, 1) := by decide +kernel
theorem dX7_closes_25 : decode cX7_closes 25 = .ok (.isub, 1) := by decide +kernel
theorem dX7_closes_26 : decode cX7_closes 26 = .ok (.caload, 1) := by decide +kernel
theorem dX7_closes_27 : decode cX7_closes 27 = .ok (.iload_n 1, 1) := by decide +kernel
theorem dX7_closes_28 : decode cX7_closes 28 = .ok (.if_icmp .eq 5, 3) := by decide +kernel
theorem dX7_closes_31 : decode cX7_closes 31 = .ok (.iconst 0, 1) := by decide +kernel
theorem dX7_closes_32 : decode cX7_closes 32 = .ok (.ireturn, 1) := by decide +kernel
theorem dX7_closes_33 : decode cX7_closes 33 = .ok (.aload_n 0, 1) := by decide +kernel
theorem dX7_closes_34 : decode cX7_closes 34 = .ok (.dup, 1) := by decide +kernel
theorem dX7_closes_35 : decode cX7_closes 35 = .ok (.getfield 25, 3) := by decide +kernel
theorem dX7_closes_38 : decode cX7_closes 38 = .ok (.iconst 1, 1) := by decide +kernel
theorem dX7_closes_39 : decode cX7_closes 39 = .ok (.isub, 1) := by decide +kernel
theorem dX7_closes_40 : decode cX7_closes 40 = .ok (.putfield 25, 3) := by decide +kernel
theorem dX7_closes_43 : decode cX7_closes 43 = .ok (.iconst 1, 1) := by decide +kernel
theorem dX7_closes_44 : decode cX7_closes 44 = .ok (.ireturn, 1) := by decide +kernel
theorem dX7_wantsCell_0 : decode cX7_wantsCell 0 = .ok (.iload_n 0, 1) := by decide +kernel
theorem dX7_wantsCell_1 : decode cX7_wantsCell 1 = .ok (.bipush 114, 2) := by decide +kernel
theorem dX7_wantsCell_3 : decode cX7_wantsCell 3 = .ok (.if_icmp .eq 9, 3) := by decide +kernel
theorem dX7_wantsCell_6 : decode cX7_wantsCell 6 = .ok (.iload_n 0, 1) := by decide +kernel
theorem dX7_wantsCell_7 : decode cX7_wantsCell 7 = .ok (.bipush 119, 2) := by decide +kernel
theorem dX7_wantsCell_9 : decode cX7_wantsCell 9 = .ok (.if_icmp .ne 7, 3) := by decide +kernel
theorem dX7_wantsCell_12 : decode cX7_wantsCell 12 = .ok (.iconst 1, 1) := by decide +kernel
theorem dX7_wantsCell_13 : decode cX7_wantsCell 13 = .ok (.goto 4, 3) := by decide +kernel
theorem dX7_wantsCell_16 : decode cX7_wantsCell 16 = .ok (.iconst 0, 1) := by decide +kernel
theorem dX7_wantsCell_17 : decode cX7_wantsCell 17 = .ok (.ireturn, 1) := by decide +kernel
theorem dX7_wantsNumber_0 : decode cX7_wantsNumber 0 = .ok (.iload_n 0, 1) := by decide +kernel
theorem dX7_wantsNumber_1 : decode cX7_wantsNumber 1 = .ok (.bipush 43, 2) := by decide +kernel
theorem dX7_wantsNumber_3 : decode cX7_wantsNumber 3 = .ok (.if_icmp .eq 15, 3) := by decide +kernel
theorem dX7_wantsNumber_6 : decode cX7_wantsNumber 6 = .ok (.iload_n 0, 1) := by decide +kernel
theorem dX7_wantsNumber_7 : decode cX7_wantsNumber 7 = .ok (.bipush 45, 2) := by decide +kernel
theorem dX7_wantsNumber_9 : decode cX7_wantsNumber 9 = .ok (.if_icmp .eq 9, 3) := by decide +kernel
theorem dX7_wantsNumber_12 : decode cX7_wantsNumber 12 = .ok (.iload_n 0, 1) := by decide +kernel
theorem dX7_wantsNumber_13 : decode cX7_wantsNumber 13 = .ok (.bipush 63, 2) := by decide +kernel
theorem dX7_wantsNumber_15 : decode cX7_wantsNumber 15 = .ok (.if_icmp .ne 7, 3) := by decide +kernel
theorem dX7_wantsNumber_18 : decode cX7_wantsNumber 18 = .ok (.iconst 1, 1) := by decide +kernel
theorem dX7_wantsNumber_19 : decode cX7_wantsNumber 19 = .ok (.goto 4, 3) := by decide +kernel
theorem dX7_wantsNumber_22 : decode cX7_wantsNumber 22 = .ok (.iconst 0, 1) := by decide +kernel
theorem dX7_wantsNumber_23 : decode cX7_wantsNumber 23 = .ok (.ireturn, 1) := by decide +kernel
theorem dX8_init_0 : decode cX8_init 0 = .ok (.aload_n 0, 1) := by decide +kernel
theorem dX8_init_1 : decode cX8_init 1 = .ok (.invokespecial 3, 3) := by decide +kernel
theorem dX8_init_4 : decode cX8_init 4 = .ok (.aload_n 0, 1) := by decide +kernel
theorem dX8_init_5 : decode cX8_init 5 = .ok (.bipush 60, 2) := by decide +kernel
theorem dX8_init_7 : decode cX8_init 7 = .ok (.newarray .char, 2) := by decide +kernel
theorem dX8_init_9 : decode cX8_init 9 = .ok (.putfield 9, 3) := by decide +kernel
theorem dX8_init_12 : decode cX8_init 12 = .ok (.aload_n 0, 1) := by decide +kernel
theorem dX8_init_13 : decode cX8_init 13 = .ok (.new 15, 3) := by decide +kernel
theorem dX8_init_16 : decode cX8_init 16 = .ok (.dup, 1) := by decide +kernel
theorem dX8_init_17 : decode cX8_init 17 = .ok (.invokespecial 17, 3) := by decide +kernel
theorem dX8_init_20 : decode cX8_init 20 = .ok (.putfield 18, 3) := by decide +kernel
theorem dX8_init_23 : decode cX8_init 23 = .ok (.return_, 1) := by decide +kernel
theorem dX8_add_0 : decode cX8_add 0 = .ok (.aload_n 0, 1) := by decide +kernel
theorem dX8_add_1 : decode cX8_add 1 = .ok (.getfield 22, 3) := by decide +kernel
theorem dX8_add_4 : decode cX8_add 4 = .ok (.bipush 60, 2) := by decide +kernel
theorem dX8_add_6 : decode cX8_add 6 = .ok (.if_icmp .lt 5, 3) := by decide +kernel
theorem dX8_add_9 : decode cX8_add 9 = .ok (.iconst 0, 1) := by decide +kernel
theorem dX8_add_10 : decode cX8_add 10 = .ok (.ireturn, 1) := by decide +kernel
theorem dX8_add_11 : decode cX8_add 11 = .ok (.aload_n 0, 1) := by decide +kernel
theorem dX8_add_12 : decode cX8_add 12 = .ok (.getfield 9, 3) := by decide +kernel
theorem dX8_add_15 : decode cX8_add 15 = .ok (.aload_n 0, 1) := by decide +kernel
theorem dX8_add_16 : decode cX8_add 16 = .ok (.getfield 22, 3) := by decide +kernel
theorem dX8_add_19 : decode cX8_add 19 = .ok (.iload_n 1, 1) := by decide +kernel
theorem dX8_add_20 : decode cX8_add 20 = .ok (.castore, 1) := by decide +kernel
theorem dX8_add_21 : decode cX8_add 21 = .ok (.aload_n 0, 1) := by decide +kernel
theorem dX8_add_22 : decode cX8_add 22 = .ok (.dup, 1) := by decide +kernel
theorem dX8_add_23 : decode cX8_add 23 = .ok (.getfield 22, 3) := by decide +kernel
theorem dX8_add_26 : decode cX8_add 26 = .ok (.iconst 1, 1) := by decide +kernel
theorem dX8_add_27 : decode cX8_add 27 = .ok (.iadd, 1) := by decide +kernel
theorem dX8_add_28 : decode cX8_add 28 = .ok (.putfield 22, 3) := by decide +kernel
theorem dX8_add_31 : decode cX8_add 31 = .ok (.iconst 1, 1) := by decide +kernel
theorem dX8_add_32 : decode cX8_add 32 = .ok (.ireturn, 1) := by decide +kernel
theorem dX8_firstError_0 : decode cX8_firstError 0 = .ok (.aload_n 0, 1) := by decide +kernel
theorem dX8_firstError_1 : decode cX8_firstError 1 = .ok (.getfield 18, 3) := by decide +kernel
theorem dX8_firstError_4 : decode cX8_firstError 4 = .ok (.invokevirtual 26, 3) := by decide +kernel
theorem dX8_firstError_7 : decode cX8_firstError 7 = .ok (.iconst 0, 1) := by decide +kernel
theorem dX8_firstError_8 : decode cX8_firstError 8 = .ok (.istore_n 1, 1) := by decide +kernel
theorem dX8_firstError_9 : decode cX8_firstError 9 = .ok (.iload_n 1, 1) := by decide +kernel
theorem dX8_firstError_10 : decode cX8_firstError 10 = .ok (.aload_n 0, 1) := by decide +kernel
theorem dX8_firstError_11 : decode cX8_firstError 11 = .ok (.getfield 22, 3) := by decide +kernel
theorem dX8_firstError_14 : decode cX8_firstError 14 = .ok (.if_icmp .ge 33, 3) := by decide +kernel
theorem dX8_firstError_17 : decode cX8_firstError 17 = .ok (.iload_n 1, 1) := by decide +kernel
theorem dX8_firstError_18 : decode cX8_firstError 18 = .ok (.bipush 60, 2) := by decide +kernel
theorem dX8_firstError_20 : decode cX8_firstError 20 = .ok (.if_icmp .ge 27, 3) := by decide +kernel
theorem dX8_firstError_23 : decode cX8_firstError 23 = .ok (.aload_n 0, 1) := by decide +kernel
theorem dX8_firstError_24 : decode cX8_firstError 24 = .ok (.getfield 18, 3) := by decide +kernel
theorem dX8_firstError_27 : decode cX8_firstError 27 = .ok (.aload_n 0, 1) := by decide +kernel
theorem dX8_firstError_28 : decode cX8_firstError 28 = .ok (.getfield 9, 3) := by decide +kernel
theorem dX8_firstError_31 : decode cX8_firstError 31 = .ok (.iload_n 1, 1) := by decide +kernel
theorem dX8_firstError_32 : decode cX8_firstError 32 = .ok (.caload, 1) := by decide +kernel
theorem dX8_firstError_33 : decode cX8_firstError 33 = .ok (.invokevirtual 29, 3) := by decide +kernel
theorem dX8_firstError_36 : decode cX8_firstError 36 = .ok (.ifCond .ne 5, 3) := by decide +kernel
theorem dX8_firstError_39 : decode cX8_firstError 39 = .ok (.iload_n 1, 1) := by decide +kernel
theorem dX8_firstError_40 : decode cX8_firstError 40 = .ok (.ireturn, 1) := by decide +kernel
theorem dX8_firstError_41 : decode cX8_firstError 41 = .ok (.iinc 1 1, 3) := by decide +kernel
theorem dX8_firstError_44 : decode cX8_firstError 44 = .ok (.goto (-35), 3) := by decide +kernel
theorem dX8_firstError_47 : decode cX8_firstError 47 = .ok (.aload_n 0, 1) := by decide +kernel
theorem dX8_firstError_48 : decode cX8_firstError 48 = .ok (.getfield 18, 3) := by decide +kernel
theorem dX8_firstError_51 : decode cX8_firstError 51 = .ok (.invokevirtual 33, 3) := by decide +kernel
theorem dX8_firstError_54 : decode cX8_firstError 54 = .ok (.ifCond .eq 8, 3) := by decide +kernel
theorem dX8_firstError_57 : decode cX8_firstError 57 = .ok (.bipush (-9), 2) := by decide +kernel
theorem dX8_firstError_59 : decode cX8_firstError 59 = .ok (.goto 7, 3) := by decide +kernel
theorem dX8_firstError_62 : decode cX8_firstError 62 = .ok (.aload_n 0, 1) := by decide +kernel
theorem dX8_firstError_63 : decode cX8_firstError 63 = .ok (.getfield 22, 3) := by decide +kernel
theorem dX8_firstError_66 : decode cX8_firstError 66 = .ok (.ireturn, 1) := by decide +kernel
theorem dX8_fill_0 : decode cX8_fill 0 = .ok (.iconst 0, 1) := by decide +kernel
theorem dX8_fill_1 : decode cX8_fill 1 = .ok (.istore_n 3, 1) := by decide +kernel
theorem dX8_fill_2 : decode cX8_fill 2 = .ok (.iload_n 3, 1) := by decide +kernel
theorem dX8_fill_3 : decode cX8_fill 3 = .ok (.bipush 6, 2) := by decide +kernel
theorem dX8_fill_5 : decode cX8_fill 5 = .ok (.if_icmp .ge 22, 3) := by decide +kernel
theorem dX8_fill_8 : decode cX8_fill 8 = .ok (.aload_n 1, 1) := by decide +kernel
theorem dX8_fill_9 : decode cX8_fill 9 = .ok (.getfield 37, 3) := by decide +kernel
theorem dX8_fill_12 : decode cX8_fill 12 = .ok (.iload_n 3, 1) := by decide +kernel
theorem dX8_fill_13 : decode cX8_fill 13 = .ok (.aload_n 0, 1) := by decide +kernel
theorem dX8_fill_14 : decode cX8_fill 14 = .ok (.iconst 1, 1) := by decide +kernel
theorem dX8_fill_15 : decode cX8_fill 15 = .ok (.iload_n 3, 1) := by decide +kernel
theorem dX8_fill_16 : decode cX8_fill 16 = .ok (.iadd, 1) := by decide +kernel
theorem dX8_fill_17 : decode cX8_fill 17 = .ok (.invokevirtual 43, 3) := by decide +kernel
theorem dX8_fill_20 : decode cX8_fill 20 = .ok (.iastore, 1) := by decide +kernel
theorem dX8_fill_21 : decode cX8_fill 21 = .ok (.iinc 3 1, 3) := by decide +kernel
theorem dX8_fill_24 : decode cX8_fill 24 = .ok (.goto (-22), 3) := by decide +kernel
theorem dX8_fill_27 : decode cX8_fill 27 = .ok (.bipush 7, 2) := by decide +kernel
theorem dX8_fill_29 : decode cX8_fill 29 = .ok (.istore_n 3, 1) := by decide +kernel
theorem dX8_fill_30 : decode cX8_fill 30 = .ok (.iconst 0, 1) := by decide +kernel
theorem dX8_fill_31 : decode cX8_fill 31 = .ok (.istore 4, 2) := by decide +kernel
theorem dX8_fill_33 : decode cX8_fill 33 = .ok (.iload 4, 2) := by decide +kernel
theorem dX8_fill_35 : decode cX8_fill 35 = .ok (.iconst 3, 1) := by decide +kernel
theorem dX8_fill_36 : decode cX8_fill 36 = .ok (.if_icmp .ge 51, 3) := by decide +kernel
theorem dX8_fill_39 : decode cX8_fill 39 = .ok (.iload 4, 2) := by decide +kernel
theorem dX8_fill_41 : decode cX8_fill 41 = .ok (.aload_n 2, 1) := by decide +kernel
theorem dX8_fill_42 : decode cX8_fill 42 = .ok (.arraylength, 1) := by decide +kernel
theorem dX8_fill_43 : decode cX8_fill 43 = .ok (.if_icmp .ge 44, 3) := by decide +kernel
theorem dX8_fill_46 : decode cX8_fill 46 = .ok (.iload_n 3, 1) := by decide +kernel
theorem dX8_fill_47 : decode cX8_fill 47 = .ok (.aload_n 0, 1) := by decide +kernel
theorem dX8_fill_48 : decode cX8_fill 48 = .ok (.getfield 22, 3) := by decide +kernel
theorem dX8_fill_51 : decode cX8_fill 51 = .ok (.if_icmp .ge 36, 3) := by decide +kernel
theorem dX8_fill_54 : decode cX8_fill 54 = .ok (.aload_n 0, 1) := by decide +kernel
theorem dX8_fill_55 : decode cX8_fill 55 = .ok (.iload_n 3, 1) := by decide +kernel
theorem dX8_fill_56 : decode cX8_fill 56 = .ok (.iconst 1, 1) := by decide +kernel
theorem dX8_fill_57 : decode cX8_fill 57 = .ok (.iadd, 1) := by decide +kernel
theorem dX8_fill_58 : decode cX8_fill 58 = .ok (.invokevirtual 43, 3) := by decide +kernel
theorem dX8_fill_61 : decode cX8_fill 61 = .ok (.istore 5, 2) := by decide +kernel
theorem dX8_fill_63 : decode cX8_fill 63 = .ok (.aload_n 0, 1) := by decide +kernel
theorem dX8_fill_64 : decode cX8_fill 64 = .ok (.aload_n 2, 1) := by decide +kernel
theorem dX8_fill_65 : decode cX8_fill 65 = .ok (.iload 4, 2) := by decide +kernel
theorem dX8_fill_67 : decode cX8_fill 67 = .ok (.aaload, 1) := by decide +kernel
theorem dX8_fill_68 : decode cX8_fill 68 = .ok (.iload_n 3, 1) := by decide +kernel
theorem dX8_fill_69 : decode cX8_fill 69 = .ok (.iconst 2, 1) := by decide +kernel
theorem dX8_fill_70 : decode cX8_fill 70 = .ok (.iadd, 1) := by decide +kernel
theorem dX8_fill_71 : decode cX8_fill 71 = .ok (.invokevirtual 47, 3) := by decide +kernel
theorem dX8_fill_74 : decode cX8_fill 74 = .ok (.istore_n 3, 1) := by decide +kernel
theorem dX8_fill_75 : decode cX8_fill 75 = .ok (.aload_n 1, 1) := by decide +kernel
theorem dX8_fill_76 : decode cX8_fill 76 = .ok (.iload 5, 2) := by decide +kernel
theorem dX8_fill_78 : decode cX8_fill 78 = .ok (.invokevirtual 51, 3) := by decide +kernel
theorem dX8_fill_81 : decode cX8_fill 81 = .ok (.iinc 4 1, 3) := by decide +kernel
theorem dX8_fill_84 : decode cX8_fill 84 = .ok (.goto (-51), 3) := by decide +kernel
theorem dX8_fill_87 : decode cX8_fill 87 = .ok (.return_, 1) := by decide +kernel
theorem dX8_fillProgram_0 : decode cX8_fillProgram 0 = .ok (.aload_n 1, 1) := by decide +kernel
theorem dX8_fillProgram_1 : decode cX8_fillProgram 1 = .ok (.invokevirtual 55, 3) := by decide +kernel
theorem dX8_fillProgram_4 : decode cX8_fillProgram 4 = .ok (.iload_n 2, 1) := by decide +kernel
theorem dX8_fillProgram_5 : decode cX8_fillProgram 5 = .ok (.istore_n 3, 1) := by decide +kernel
theorem dX8_fillProgram_6 : decode cX8_fillProgram 6 = .ok (.iload_n 3, 1) := by decide +kernel
theorem dX8_fillProgram_7 : decode cX8_fillProgram 7 = .ok (.aload_n 0, 1) := by decide +kernel
theorem dX8_fillProgram_8 : decode cX8_fillProgram 8 = .ok (.getfield 22, 3) := by decide +kernel
theorem dX8_fillProgram_11 : decode cX8_fillProgram 11 = .ok (.if_icmp .ge 71, 3) := by decide +kernel
theorem dX8_fillProgram_14 : decode cX8_fillProgram 14 = .ok (.iload_n 3, 1) := by decide +kernel
theorem dX8_fillProgram_15 : decode cX8_fillProgram 15 = .ok (.bipush 60, 2) := by decide +kernel
theorem dX8_fillProgram_17 : decode cX8_fillProgram 17 = .ok (.if_icmp .ge 65, 3) := by decide +kernel
theorem dX8_fillProgram_20 : decode cX8_fillProgram 20 = .ok (.aload_n 0, 1) := by decide +kernel
theorem dX8_fillProgram_21 : decode cX8_fillProgram 21 = .ok (.getfield 9, 3) := by decide +kernel
theorem dX8_fillProgram_24 : decode cX8_fillProgram 24 = .ok (.iload_n 3, 1) := by decide +kernel
theorem dX8_fillProgram_25 : decode cX8_fillProgram 25 = .ok (.caload, 1) := by decide +kernel
theorem dX8_fillProgram_26 : decode cX8_fillProgram 26 = .ok (.bipush 46, 2) := by decide +kernel
theorem dX8_fillProgram_28 : decode cX8_fillProgram 28 = .ok (.if_icmp .eq 54, 3) := by decide +kernel
theorem dX8_fillProgram_31 : decode cX8_fillProgram 31 = .ok (.aload_n 0, 1) := by decide +kernel
theorem dX8_fillProgram_32 : decode cX8_fillProgram 32 = .ok (.getfield 9, 3) := by decide +kernel
theorem dX8_fillProgram_35 : decode cX8_fillProgram 35 = .ok (.iload_n 3, 1) := by decide +kernel
theorem dX8_fillProgram_36 : decode cX8_fillProgram 36 = .ok (.caload, 1) := by decide +kernel
theorem dX8_fillProgram_37 : decode cX8_fillProgram 37 = .ok (.istore 4, 2) := by decide +kernel
theorem dX8_fillProgram_39 : decode cX8_fillProgram 39 = .ok (.iinc 3 1, 3) := by decide +kernel
theorem dX8_fillProgram_42 : decode cX8_fillProgram 42 = .ok (.iconst 0, 1) := by decide +kernel
theorem dX8_fillProgram_43 : decode cX8_fillProgram 43 = .ok (.istore 5, 2) := by decide +kernel
theorem dX8_fillProgram_45 : decode cX8_fillProgram 45 = .ok (.iload 4, 2) := by decide +kernel
theorem dX8_fillProgram_47 : decode cX8_fillProgram 47 = .ok (.invokestatic 60, 3) := by decide +kernel
theorem dX8_fillProgram_50 : decode cX8_fillProgram 50 = .ok (.ifCond .ne 11, 3) := by decide +kernel
theorem dX8_fillProgram_53 : decode cX8_fillProgram 53 = .ok (.iload 4, 2) := by decide +kernel
theorem dX8_fillProgram_55 : decode cX8_fillProgram 55 = .ok (.invokestatic 63, 3) := by decide +kernel
theorem dX8_fillProgram_58 : decode cX8_fillProgram 58 = .ok (.ifCond .eq 13, 3) := by decide +kernel
theorem dX8_fillProgram_61 : decode cX8_fillProgram 61 = .ok (.aload_n 0, 1) := by decide +kernel
theorem dX8_fillProgram_62 : decode cX8_fillProgram 62 = .ok (.iload_n 3, 1) := by decide +kernel
theorem dX8_fillProgram_63 : decode cX8_fillProgram 63 = .ok (.invokevirtual 43, 3) := by decide +kernel
theorem dX8_fillProgram_66 : decode cX8_fillProgram 66 = .ok (.istore 5, 2) := by decide +kernel
theorem dX8_fillProgram_68 : decode cX8_fillProgram 68 = .ok (.iinc 3 1, 3) := by decide +kernel
theorem dX8_fillProgram_71 : decode cX8_fillProgram 71 = .ok (.aload_n 1, 1) := by decide +kernel
theorem dX8_fillProgram_72 : decode cX8_fillProgram 72 = .ok (.iload 4, 2) := by decide +kernel
theorem dX8_fillProgram_74 : decode cX8_fillProgram 74 = .ok (.iload 5, 2) := by decide +kernel
theorem dX8_fillProgram_76 : decode cX8_fillProgram 76 = .ok (.invokevirtual 66, 3) := by decide +kernel
theorem dX8_fillProgram_79 : decode cX8_fillProgram 79 = .ok (.goto (-73), 3) := by decide +kernel
theorem dX8_fillProgram_82 : decode cX8_fillProgram 82 = .ok (.iload_n 3, 1) := by decide +kernel
theorem dX8_fillProgram_83 : decode cX8_fillProgram 83 = .ok (.iconst 1, 1) := by decide +kernel
theorem dX8_fillProgram_84 : decode cX8_fillProgram 84 = .ok (.iadd, 1) := by decide +kernel
theorem dX8_fillProgram_85 : decode cX8_fillProgram 85 = .ok (.ireturn, 1) := by decide +kernel
theorem dX8_digitAt_0 : decode cX8_digitAt 0 = .ok (.iload_n 1, 1) := by decide +kernel
theorem dX8_digitAt_1 : decode cX8_digitAt 1 = .ok (.ifCond .lt 29, 3) := by decide +kernel
theorem dX8_digitAt_4 : decode cX8_digitAt 4 = .ok (.iload_n 1, 1) := by decide +kernel
theorem dX8_digitAt_5 : decode cX8_digitAt 5 = .ok (.aload_n 0, 1) := by decide +kernel
theorem dX8_digitAt_6 : decode cX8_digitAt 6 = .ok (.getfield 22, 3) := by decide +kernel
theorem dX8_digitAt_9 : decode cX8_digitAt 9 = .ok (.if_icmp .ge 21, 3) := by decide +kernel
theorem dX8_digitAt_12 : decode cX8_digitAt 12 = .ok (.iload_n 1, 1) := by decide +kernel
theorem dX8_digitAt_13 : decode cX8_digitAt 13 = .ok (.bipush 60, 2) := by decide +kernel
theorem dX8_digitAt_15 : decode cX8_digitAt 15 = .ok (.if_icmp .ge 15, 3) := by decide +kernel
theorem dX8_digitAt_18 : decode cX8_digitAt 18 = .ok (.aload_n 0, 1) := by decide +kernel
theorem dX8_digitAt_19 : decode cX8_digitAt 19 = .ok (.getfield 9, 3) := by decide +kernel
theorem dX8_digitAt_22 : decode cX8_digitAt 22 = .ok (.iload_n 1, 1) := by decide +kernel
theorem dX8_digitAt_23 : decode cX8_digitAt 23 = .ok (.caload, 1) := by decide +kernel
theorem dX8_digitAt_24 : decode cX8_digitAt 24 = .ok (.bipush 48, 2) := by decide +kernel
theorem dX8_digitAt_26 : decode cX8_digitAt 26 = .ok (.isub, 1) := by decide +kernel
theorem dX8_digitAt_27 : decode cX8_digitAt 27 = .ok (.goto 4, 3) := by decide +kernel
theorem dX8_digitAt_30 : decode cX8_digitAt 30 = .ok (.iconst 0, 1) := by decide +kernel
theorem dX8_digitAt_31 : decode cX8_digitAt 31 = .ok (.ireturn, 1) := by decide +kernel
theorem dX9_init_0 : decode cX9_init 0 = .ok (.aload_n 0, 1) := by decide +kernel
theorem dX9_init_1 : decode cX9_init 1 = .ok (.invokespecial 3, 3) := by decide +kernel
theorem dX9_init_4 : decode cX9_init 4 = .ok (.aload_n 0, 1) := by decide +kernel
theorem dX9_init_5 : decode cX9_init 5 = .ok (.new 9, 3) := by decide +kernel
theorem dX9_init_8 : decode cX9_init 8 = .ok (.dup, 1) := by decide +kernel
theorem dX9_init_9 : decode cX9_init 9 = .ok (.invokespecial 11, 3) := by decide +kernel
theorem dX9_init_12 : decode cX9_init 12 = .ok (.putfield 12, 3) := by decide +kernel
theorem dX9_init_15 : decode cX9_init 15 = .ok (.aload_n 0, 1) := by decide +kernel
theorem dX9_init_16 : decode cX9_init 16 = .ok (.new 9, 3) := by decide +kernel
theorem dX9_init_19 : decode cX9_init 19 = .ok (.dup, 1) := by decide +kernel
theorem dX9_init_20 : decode cX9_init 20 = .ok (.invokespecial 11, 3) := by decide +kernel
theorem dX9_init_23 : decode cX9_init 23 = .ok (.putfield 18, 3) := by decide +kernel
theorem dX9_init_26 : decode cX9_init 26 = .ok (.aload_n 0, 1) := by decide +kernel
theorem dX9_init_27 : decode cX9_init 27 = .ok (.iconst 3, 1) := by decide +kernel
theorem dX9_init_28 : decode cX9_init 28 = .ok (.anewarray 21, 3) := by decide +kernel
theorem dX9_init_31 : decode cX9_init 31 = .ok (.putfield 23, 3) := by decide +kernel
theorem dX9_init_34 : decode cX9_init 34 = .ok (.aload_n 0, 1) := by decide +kernel
theorem dX9_init_35 : decode cX9_init 35 = .ok (.aload_n 1, 1) := by decide +kernel
theorem dX9_init_36 : decode cX9_init 36 = .ok (.putfield 27, 3) := by decide +kernel
theorem dX9_init_39 : decode cX9_init 39 = .ok (.iconst 0, 1) := by decide +kernel
theorem dX9_init_40 : decode cX9_init 40 = .ok (.istore_n 2, 1) := by decide +kernel
theorem dX9_init_41 : decode cX9_init 41 = .ok (.iload_n 2, 1) := by decide +kernel
theorem dX9_init_42 : decode cX9_init 42 = .ok (.iconst 3, 1) := by decide +kernel
theorem dX9_init_43 : decode cX9_init 43 = .ok (.if_icmp .ge 22, 3) := by decide +kernel
theorem dX9_init_46 : decode cX9_init 46 = .ok (.aload_n 0, 1) := by decide +kernel
theorem dX9_init_47 : decode cX9_init 47 = .ok (.getfield 23, 3) := by decide +kernel
theorem dX9_init_50 : decode cX9_init 50 = .ok (.iload_n 2, 1) := by decide +kernel
theorem dX9_init_51 : decode cX9_init 51 = .ok (.new 21, 3) := by decide +kernel
theorem dX9_init_54 : decode cX9_init 54 = .ok (.dup, 1) := by decide +kernel
theorem dX9_init_55 : decode cX9_init 55 = .ok (.invokespecial 31, 3) := by decide +kernel
theorem dX9_init_58 : decode cX9_init 58 = .ok (.aastore, 1) := by decide +kernel
theorem dX9_init_59 : decode cX9_init 59 = .ok (.iinc 2 1, 3) := by decide +kernel
theorem dX9_init_62 : decode cX9_init 62 = .ok (.goto (-21), 3) := by decide +kernel
theorem dX9_init_65 : decode cX9_init 65 = .ok (.return_, 1) := by decide +kernel
theorem dX9_become_0 : decode cX9_become 0 = .ok (.aload_n 0, 1) := by decide +kernel
theorem dX9_become_1 : decode cX9_become 1 = .ok (.iload_n 1, 1) := by decide +kernel
theorem dX9_become_2 : decode cX9_become 2 = .ok (.putfield 32, 3) := by decide +kernel
theorem dX9_become_5 : decode cX9_become 5 = .ok (.aload_n 0, 1) := by decide +kernel
theorem dX9_become_6 : decode cX9_become 6 = .ok (.iconst 0, 1) := by decide +kernel
theorem dX9_become_7 : decode cX9_become 7 = .ok (.putfield 36, 3) := by decide +kernel
theorem dX9_become_10 : decode cX9_become 10 = .ok (.aload_n 0, 1) := by decide +kernel
theorem dX9_become_11 : decode cX9_become 11 = .ok (.iconst 0, 1) := by decide +kernel
theorem dX9_become_12 : decode cX9_become 12 = .ok (.putfield 39, 3) := by decide +kernel
theorem dX9_become_15 : decode cX9_become 15 = .ok (.aload_n 0, 1) := by decide +kernel
theorem dX9_become_16 : decode cX9_become 16 = .ok (.getfield 12, 3) := by decide +kernel
theorem dX9_become_19 : decode cX9_become 19 = .ok (.iconst 0, 1) := by decide +kernel
theorem dX9_become_20 : decode cX9_become 20 = .ok (.putfield 42, 3) := by decide +kernel
theorem dX9_become_23 : decode cX9_become 23 = .ok (.aload_n 0, 1) := by decide +kernel
theorem dX9_become_24 : decode cX9_become 24 = .ok (.getfield 18, 3) := by decide +kernel
theorem dX9_become_27 : decode cX9_become 27 = .ok (.iconst 0, 1) := by decide +kernel
theorem dX9_become_28 : decode cX9_become 28 = .ok (.putfield 42, 3) := by decide +kernel
theorem dX9_become_31 : decode cX9_become 31 = .ok (.aload_n 0, 1) := by decide +kernel
theorem dX9_become_32 : decode cX9_become 32 = .ok (.iconst 0, 1) := by decide +kernel
theorem dX9_become_33 : decode cX9_become 33 = .ok (.putfield 45, 3) := by decide +kernel
theorem dX9_become_36 : decode cX9_become 36 = .ok (.return_, 1) := by decide +kernel
theorem dX9_startAgain_0 : decode cX9_startAgain 0 = .ok (.aload_n 0, 1) := by decide +kernel
theorem dX9_startAgain_1 : decode cX9_startAgain 1 = .ok (.dup, 1) := by decide +kernel
theorem dX9_startAgain_2 : decode cX9_startAgain 2 = .ok (.getfield 48, 3) := by decide +kernel
theorem dX9_startAgain_5 : decode cX9_startAgain 5 = .ok (.iconst 1, 1) := by decide +kernel
theorem dX9_startAgain_6 : decode cX9_startAgain 6 = .ok (.iadd, 1) := by decide +kernel
theorem dX9_startAgain_7 : decode cX9_startAgain 7 = .ok (.putfield 48, 3) := by decide +kernel
theorem dX9_startAgain_10 : decode cX9_startAgain 10 = .ok (.aload_n 0, 1) := by decide +kernel
theorem dX9_startAgain_11 : decode cX9_startAgain 11 = .ok (.iconst 0, 1) := by decide +kernel
theorem dX9_startAgain_12 : decode cX9_startAgain 12 = .ok (.invokevirtual 51, 3) := by decide +kernel
theorem dX9_startAgain_15 : decode cX9_startAgain 15 = .ok (.return_, 1) := by decide +kernel
theorem dX9_openBlock_0 : decode cX9_openBlock 0 = .ok (.aload_n 0, 1) := by decide +kernel
theorem dX9_openBlock_1 : decode cX9_openBlock 1 = .ok (.getfield 45, 3) := by decide +kernel
theorem dX9_openBlock_4 : decode cX9_openBlock 4 = .ok (.ifCond .lt 75, 3) := by decide +kernel
theorem dX9_openBlock_7 : decode cX9_openBlock 7 = .ok (.aload_n 0, 1) := by decide +kernel
theorem dX9_openBlock_8 : decode cX9_openBlock 8 = .ok (.getfield 45, 3) := by decide +kernel
theorem dX9_openBlock_11 : decode cX9_openBlock 11 = .ok (.iconst 3, 1) := by decide +kernel
theorem dX9_openBlock_12 : decode cX9_openBlock 12 = .ok (.if_icmp .ge 67, 3) := by decide +kernel
theorem dX9_openBlock_15 : decode cX9_openBlock 15 = .ok (.aload_n 0, 1) := by decide +kernel
theorem dX9_openBlock_16 : decode cX9_openBlock 16 = .ok (.getfield 23, 3) := by decide +kernel
theorem dX9_openBlock_19 : decode cX9_openBlock 19 = .ok (.aload_n 0, 1) := by decide +kernel
theorem dX9_openBlock_20 : decode cX9_openBlock 20 = .ok (.getfield 45, 3) := by decide +kernel
theorem dX9_openBlock_23 : decode cX9_openBlock 23 = .ok (.aaload, 1) := by decide +kernel
theorem dX9_openBlock_24 : decode cX9_openBlock 24 = .ok (.astore_n 2, 1) := by decide +kernel
theorem dX9_openBlock_25 : decode cX9_openBlock 25 = .ok (.aload_n 2, 1) := by decide +kernel
theorem dX9_openBlock_26 : decode cX9_openBlock 26 = .ok (.iload_n 1, 1) := by decide +kernel
theorem dX9_openBlock_27 : decode cX9_openBlock 27 = .ok (.putfield 55, 3) := by decide +kernel
theorem dX9_openBlock_30 : decode cX9_openBlock 30 = .ok (.aload_n 2, 1) := by decide +kernel
theorem dX9_openBlock_31 : decode cX9_openBlock 31 = .ok (.iconst 0, 1) := by decide +kernel
theorem dX9_openBlock_32 : decode cX9_openBlock 32 = .ok (.putfield 59, 3) := by decide +kernel
theorem dX9_openBlock_35 : decode cX9_openBlock 35 = .ok (.aload_n 2, 1) := by decide +kernel
theorem dX9_openBlock_36 : decode cX9_openBlock 36 = .ok (.aload_n 0, 1) := by decide +kernel
theorem dX9_openBlock_37 : decode cX9_openBlock 37 = .ok (.getfield 27, 3) := by decide +kernel
theorem dX9_openBlock_40 : decode cX9_openBlock 40 = .ok (.aload_n 0, 1) := by decide +kernel
theorem dX9_openBlock_41 : decode cX9_openBlock 41 = .ok (.getfield 39, 3) := by decide +kernel
theorem dX9_openBlock_44 : decode cX9_openBlock 44 = .ok (.invokevirtual 63, 3) := by decide +kernel
theorem dX9_openBlock_47 : decode cX9_openBlock 47 = .ok (.putfield 69, 3) := by decide +kernel
theorem dX9_openBlock_50 : decode cX9_openBlock 50 = .ok (.aload_n 2, 1) := by decide +kernel
theorem dX9_openBlock_51 : decode cX9_openBlock 51 = .ok (.aload_n 0, 1) := by decide +kernel
theorem dX9_openBlock_52 : decode cX9_openBlock 52 = .ok (.getfield 36, 3) := by decide +kernel
theorem dX9_openBlock_55 : decode cX9_openBlock 55 = .ok (.putfield 72, 3) := by decide +kernel
theorem dX9_openBlock_58 : decode cX9_openBlock 58 = .ok (.aload_n 2, 1) := by decide +kernel
theorem dX9_openBlock_59 : decode cX9_openBlock 59 = .ok (.getfield 73, 3) := by decide +kernel
theorem dX9_openBlock_62 : decode cX9_openBlock 62 = .ok (.aload_n 0, 1) := by decide +kernel
theorem dX9_openBlock_63 : decode cX9_openBlock 63 = .ok (.getfield 18, 3) := by decide +kernel
theorem dX9_openBlock_66 : decode cX9_openBlock 66 = .ok (.invokevirtual 74, 3) := by decide +kernel
theorem dX9_openBlock_69 : decode cX9_openBlock 69 = .ok (.aload_n 0, 1) := by decide +kernel
theorem dX9_openBlock_70 : decode cX9_openBlock 70 = .ok (.dup, 1) := by decide +kernel
theorem dX9_openBlock_71 : decode cX9_openBlock 71 = .ok (.getfield 45, 3) := by decide +kernel
theorem dX9_openBlock_74 : decode cX9_openBlock 74 = .ok (.iconst 1, 1) := by decide +kernel
theorem dX9_openBlock_75 : decode cX9_openBlock 75 = .ok (.iadd, 1) := by decide +kernel
theorem dX9_openBlock_76 : decode cX9_openBlock 76 = .ok (.putfield 45, 3) := by decide +kernel
theorem dX9_openBlock_79 : decode cX9_openBlock 79 = .ok (.return_, 1) := by decide +kernel
theorem dX9_closeBlock_0 : decode cX9_closeBlock 0 = .ok (.aload_n 0, 1) := by decide +kernel
theorem dX9_closeBlock_1 : decode cX9_closeBlock 1 = .ok (.iconst 0, 1) := by decide +kernel
theorem dX9_closeBlock_2 : decode cX9_closeBlock 2 = .ok (.aload_n 0, 1) := by decide +kernel
theorem dX9_closeBlock_3 : decode cX9_closeBlock 3 = .ok (.getfield 45, 3) := by decide +kernel
theorem dX9_closeBlock_6 : decode cX9_closeBlock 6 = .ok (.iconst 1, 1) := by decide +kernel
theorem dX9_closeBlock_7 : decode cX9_closeBlock 7 = .ok (.isub, 1) := by decide +kernel
theorem dX9_closeBlock_8 : decode cX9_closeBlock 8 = .ok (.invokestatic 78, 3) := by decide +kernel
theorem dX9_closeBlock_11 : decode cX9_closeBlock 11 = .ok (.putfield 45, 3) := by decide +kernel
theorem dX9_closeBlock_14 : decode cX9_closeBlock 14 = .ok (.return_, 1) := by decide +kernel
theorem dX9_goBack_0 : decode cX9_goBack 0 = .ok (.aload_n 0, 1) := by decide +kernel
theorem dX9_goBack_1 : decode cX9_goBack 1 = .ok (.getfield 45, 3) := by decide +kernel
theorem dX9_goBack_4 : decode cX9_goBack 4 = .ok (.iconst 3, 1) := by decide +kernel
theorem dX9_goBack_5 : decode cX9_goBack 5 = .ok (.invokestatic 84, 3) := by decide +kernel
theorem dX9_goBack_8 : decode cX9_goBack 8 = .ok (.iconst 1, 1) := by decide +kernel
theorem dX9_goBack_9 : decode cX9_goBack 9 = .ok (.isub, 1) := by decide +kernel
theorem dX9_goBack_10 : decode cX9_goBack 10 = .ok (.istore_n 2, 1) := by decide +kernel
theorem dX9_goBack_11 : decode cX9_goBack 11 = .ok (.iload_n 2, 1) := by decide +kernel
theorem dX9_goBack_12 : decode cX9_goBack 12 = .ok (.ifCond .lt 60, 3) := by decide +kernel
theorem dX9_goBack_15 : decode cX9_goBack 15 = .ok (.aload_n 0, 1) := by decide +kernel
theorem dX9_goBack_16 : decode cX9_goBack 16 = .ok (.getfield 23, 3) := by decide +kernel
theorem dX9_goBack_19 : decode cX9_goBack 19 = .ok (.iload_n 2, 1) := by decide +kernel
theorem dX9_goBack_20 : decode cX9_goBack 20 = .ok (.aaload, 1) := by decide +kernel
theorem dX9_goBack_21 : decode cX9_goBack 21 = .ok (.astore_n 3, 1) := by decide +kernel
theorem dX9_goBack_22 : decode cX9_goBack 22 = .ok (.aload_n 3, 1) := by decide +kernel
theorem dX9_goBack_23 : decode cX9_goBack 23 = .ok (.getfield 55, 3) := by decide +kernel
theorem dX9_goBack_26 : decode cX9_goBack 26 = .ok (.iload_n 1, 1) := by decide +kernel
theorem dX9_goBack_27 : decode cX9_goBack 27 = .ok (.if_icmp .ne 39, 3) := by decide +kernel
theorem dX9_goBack_30 : decode cX9_goBack 30 = .ok (.aload_n 3, 1) := by decide +kernel
theorem dX9_goBack_31 : decode cX9_goBack 31 = .ok (.getfield 59, 3) := by decide +kernel
theorem dX9_goBack_34 : decode cX9_goBack 34 = .ok (.ifCond .ne 32, 3) := by decide +kernel
theorem dX9_goBack_37 : decode cX9_goBack 37 = .ok (.aload_n 0, 1) := by decide +kernel
theorem dX9_goBack_38 : decode cX9_goBack 38 = .ok (.aload_n 3, 1) := by decide +kernel
theorem dX9_goBack_39 : decode cX9_goBack 39 = .ok (.getfield 72, 3) := by decide +kernel
theorem dX9_goBack_42 : decode cX9_goBack 42 = .ok (.putfield 36, 3) := by decide +kernel
theorem dX9_goBack_45 : decode cX9_goBack 45 = .ok (.aload_n 0, 1) := by decide +kernel
theorem dX9_goBack_46 : decode cX9_goBack 46 = .ok (.getfield 18, 3) := by decide +kernel
theorem dX9_goBack_49 : decode cX9_goBack 49 = .ok (.aload_n 3, 1) := by decide +kernel
theorem dX9_goBack_50 : decode cX9_goBack 50 = .ok (.getfield 73, 3) := by decide +kernel
theorem dX9_goBack_53 : decode cX9_goBack 53 = .ok (.invokevirtual 74, 3) := by decide +kernel
theorem dX9_goBack_56 : decode cX9_goBack 56 = .ok (.aload_n 0, 1) := by decide +kernel
theorem dX9_goBack_57 : decode cX9_goBack 57 = .ok (.aload_n 3, 1) := by decide +kernel
theorem dX9_goBack_58 : decode cX9_goBack 58 = .ok (.getfield 69, 3) := by decide +kernel
theorem dX9_goBack_61 : decode cX9_goBack 61 = .ok (.putfield 39, 3) := by decide +kernel
theorem dX9_goBack_64 : decode cX9_goBack 64 = .ok (.iload_n 2, 1) := by decide +kernel
theorem dX9_goBack_65 : decode cX9_goBack 65 = .ok (.ireturn, 1) := by decide +kernel
theorem dX9_goBack_66 : decode cX9_goBack 66 = .ok (.iinc 2 (-1), 3) := by decide +kernel
theorem dX9_goBack_69 : decode cX9_goBack 69 = .ok (.goto (-58), 3) := by decide +kernel
theorem dX9_goBack_72 : decode cX9_goBack 72 = .ok (.iconst (-1), 1) := by decide +kernel
theorem dX9_goBack_73 : decode cX9_goBack 73 = .ok (.ireturn, 1) := by decide +kernel
theorem dX9_copyFrom_0 : decode cX9_copyFrom 0 = .ok (.aload_n 0, 1) := by decide +kernel
theorem dX9_copyFrom_1 : decode cX9_copyFrom 1 = .ok (.aload_n 1, 1) := by decide +kernel
theorem dX9_copyFrom_2 : decode cX9_copyFrom 2 = .ok (.getfield 32, 3) := by decide +kernel
theorem dX9_copyFrom_5 : decode cX9_copyFrom 5 = .ok (.putfield 32, 3) := by decide +kernel
theorem dX9_copyFrom_8 : decode cX9_copyFrom 8 = .ok (.aload_n 0, 1) := by decide +kernel
theorem dX9_copyFrom_9 : decode cX9_copyFrom 9 = .ok (.aload_n 1, 1) := by decide +kernel
theorem dX9_copyFrom_10 : decode cX9_copyFrom 10 = .ok (.getfield 87, 3) := by decide +kernel
theorem dX9_copyFrom_13 : decode cX9_copyFrom 13 = .ok (.putfield 87, 3) := by decide +kernel
theorem dX9_copyFrom_16 : decode cX9_copyFrom 16 = .ok (.aload_n 0, 1) := by decide +kernel
theorem dX9_copyFrom_17 : decode cX9_copyFrom 17 = .ok (.aload_n 1, 1) := by decide +kernel
theorem dX9_copyFrom_18 : decode cX9_copyFrom 18 = .ok (.getfield 48, 3) := by decide +kernel
theorem dX9_copyFrom_21 : decode cX9_copyFrom 21 = .ok (.putfield 48, 3) := by decide +kernel
theorem dX9_copyFrom_24 : decode cX9_copyFrom 24 = .ok (.aload_n 0, 1) := by decide +kernel
theorem dX9_copyFrom_25 : decode cX9_copyFrom 25 = .ok (.aload_n 1, 1) := by decide +kernel
theorem dX9_copyFrom_26 : decode cX9_copyFrom 26 = .ok (.getfield 36, 3) := by decide +kernel
theorem dX9_copyFrom_29 : decode cX9_copyFrom 29 = .ok (.putfield 36, 3) := by decide +kernel
theorem dX9_copyFrom_32 : decode cX9_copyFrom 32 = .ok (.aload_n 0, 1) := by decide +kernel
theorem dX9_copyFrom_33 : decode cX9_copyFrom 33 = .ok (.aload_n 1, 1) := by decide +kernel
theorem dX9_copyFrom_34 : decode cX9_copyFrom 34 = .ok (.getfield 39, 3) := by decide +kernel
theorem dX9_copyFrom_37 : decode cX9_copyFrom 37 = .ok (.putfield 39, 3) := by decide +kernel
theorem dX9_copyFrom_40 : decode cX9_copyFrom 40 = .ok (.aload_n 0, 1) := by decide +kernel
theorem dX9_copyFrom_41 : decode cX9_copyFrom 41 = .ok (.getfield 12, 3) := by decide +kernel
theorem dX9_copyFrom_44 : decode cX9_copyFrom 44 = .ok (.aload_n 1, 1) := by decide +kernel
theorem dX9_copyFrom_45 : decode cX9_copyFrom 45 = .ok (.getfield 12, 3) := by decide +kernel
theorem dX9_copyFrom_48 : decode cX9_copyFrom 48 = .ok (.invokevirtual 74, 3) := by decide +kernel
theorem dX9_copyFrom_51 : decode cX9_copyFrom 51 = .ok (.aload_n 0, 1) := by decide +kernel
theorem dX9_copyFrom_52 : decode cX9_copyFrom 52 = .ok (.getfield 18, 3) := by decide +kernel
theorem dX9_copyFrom_55 : decode cX9_copyFrom 55 = .ok (.aload_n 1, 1) := by decide +kernel
theorem dX9_copyFrom_56 : decode cX9_copyFrom 56 = .ok (.getfield 18, 3) := by decide +kernel
theorem dX9_copyFrom_59 : decode cX9_copyFrom 59 = .ok (.invokevirtual 74, 3) := by decide +kernel
theorem dX9_copyFrom_62 : decode cX9_copyFrom 62 = .ok (.aload_n 0, 1) := by decide +kernel
theorem dX9_copyFrom_63 : decode cX9_copyFrom 63 = .ok (.aload_n 1, 1) := by decide +kernel
theorem dX9_copyFrom_64 : decode cX9_copyFrom 64 = .ok (.getfield 45, 3) := by decide +kernel
theorem dX9_copyFrom_67 : decode cX9_copyFrom 67 = .ok (.putfield 45, 3) := by decide +kernel
theorem dX9_copyFrom_70 : decode cX9_copyFrom 70 = .ok (.iconst 0, 1) := by decide +kernel
theorem dX9_copyFrom_71 : decode cX9_copyFrom 71 = .ok (.istore_n 2, 1) := by decide +kernel
theorem dX9_copyFrom_72 : decode cX9_copyFrom 72 = .ok (.iload_n 2, 1) := by decide +kernel
theorem dX9_copyFrom_73 : decode cX9_copyFrom 73 = .ok (.iconst 3, 1) := by decide +kernel
theorem dX9_copyFrom_74 : decode cX9_copyFrom 74 = .ok (.if_icmp .ge 24, 3) := by decide +kernel
theorem dX9_copyFrom_77 : decode cX9_copyFrom 77 = .ok (.aload_n 0, 1) := by decide +kernel
theorem dX9_copyFrom_78 : decode cX9_copyFrom 78 = .ok (.getfield 23, 3) := by decide +kernel
theorem dX9_copyFrom_81 : decode cX9_copyFrom 81 = .ok (.iload_n 2, 1) := by decide +kernel
theorem dX9_copyFrom_82 : decode cX9_copyFrom 82 = .ok (.aaload, 1) := by decide +kernel
theorem dX9_copyFrom_83 : decode cX9_copyFrom 83 = .ok (.aload_n 1, 1) := by decide +kernel
theorem dX9_copyFrom_84 : decode cX9_copyFrom 84 = .ok (.getfield 23, 3) := by decide +kernel
theorem dX9_copyFrom_87 : decode cX9_copyFrom 87 = .ok (.iload_n 2, 1) := by decide +kernel
theorem dX9_copyFrom_88 : decode cX9_copyFrom 88 = .ok (.aaload, 1) := by decide +kernel
theorem dX9_copyFrom_89 : decode cX9_copyFrom 89 = .ok (.invokevirtual 90, 3) := by decide +kernel
theorem dX9_copyFrom_92 : decode cX9_copyFrom 92 = .ok (.iinc 2 1, 3) := by decide +kernel
theorem dX9_copyFrom_95 : decode cX9_copyFrom 95 = .ok (.goto (-23), 3) := by decide +kernel
theorem dX9_copyFrom_98 : decode cX9_copyFrom 98 = .ok (.return_, 1) := by decide +kernel
theorem dX10_init_0 : decode cX10_init 0 = .ok (.aload_n 0, 1) := by decide +kernel
theorem dX10_init_1 : decode cX10_init 1 = .ok (.invokespecial 3, 3) := by decide +kernel
theorem dX10_init_4 : decode cX10_init 4 = .ok (.aload_n 0, 1) := by decide +kernel
theorem dX10_init_5 : decode cX10_init 5 = .ok (.bipush 6, 2) := by decide +kernel
theorem dX10_init_7 : decode cX10_init 7 = .ok (.newarray .int, 2) := by decide +kernel
theorem dX10_init_9 : decode cX10_init 9 = .ok (.putfield 9, 3) := by decide +kernel
theorem dX10_init_12 : decode cX10_init 12 = .ok (.aload_n 0, 1) := by decide +kernel
theorem dX10_init_13 : decode cX10_init 13 = .ok (.bipush 6, 2) := by decide +kernel
theorem dX10_init_15 : decode cX10_init 15 = .ok (.newarray .int, 2) := by decide +kernel
theorem dX10_init_17 : decode cX10_init 17 = .ok (.putfield 15, 3) := by decide +kernel
theorem dX10_init_20 : decode cX10_init 20 = .ok (.aload_n 0, 1) := by decide +kernel
theorem dX10_init_21 : decode cX10_init 21 = .ok (.iconst 3, 1) := by decide +kernel
theorem dX10_init_22 : decode cX10_init 22 = .ok (.anewarray 18, 3) := by decide +kernel
theorem dX10_init_25 : decode cX10_init 25 = .ok (.putfield 20, 3) := by decide +kernel
theorem dX10_init_28 : decode cX10_init 28 = .ok (.aload_n 0, 1) := by decide +kernel
theorem dX10_init_29 : decode cX10_init 29 = .ok (.iconst 4, 1) := by decide +kernel
theorem dX10_init_30 : decode cX10_init 30 = .ok (.newarray .int, 2) := by decide +kernel
theorem dX10_init_32 : decode cX10_init 32 = .ok (.putfield 24, 3) := by decide +kernel
theorem dX10_init_35 : decode cX10_init 35 = .ok (.aload_n 0, 1) := by decide +kernel
theorem dX10_init_36 : decode cX10_init 36 = .ok (.iconst 4, 1) := by decide +kernel
theorem dX10_init_37 : decode cX10_init 37 = .ok (.newarray .int, 2) := by decide +kernel
theorem dX10_init_39 : decode cX10_init 39 = .ok (.putfield 27, 3) := by decide +kernel
theorem dX10_init_42 : decode cX10_init 42 = .ok (.aload_n 0, 1) := by decide +kernel
theorem dX10_init_43 : decode cX10_init 43 = .ok (.iconst 4, 1) := by decide +kernel
theorem dX10_init_44 : decode cX10_init 44 = .ok (.newarray .int, 2) := by decide +kernel
theorem dX10_init_46 : decode cX10_init 46 = .ok (.putfield 30, 3) := by decide +kernel
theorem dX10_init_49 : decode cX10_init 49 = .ok (.iconst 0, 1) := by decide +kernel
theorem dX10_init_50 : decode cX10_init 50 = .ok (.istore_n 2, 1) := by decide +kernel
theorem dX10_init_51 : decode cX10_init 51 = .ok (.iload_n 2, 1) := by decide +kernel
theorem dX10_init_52 : decode cX10_init 52 = .ok (.iconst 3, 1) := by decide +kernel
theorem dX10_init_53 : decode cX10_init 53 = .ok (.if_icmp .ge 31, 3) := by decide +kernel
theorem dX10_init_56 : decode cX10_init 56 = .ok (.iload_n 2, 1) := by decide +kernel
theorem dX10_init_57 : decode cX10_init 57 = .ok (.aload_n 1, 1) := by decide +kernel
theorem dX10_init_58 : decode cX10_init 58 = .ok (.arraylength, 1) := by decide +kernel
theorem dX10_init_59 : decode cX10_init 59 = .ok (.if_icmp .ge 25, 3) := by decide +kernel
theorem dX10_init_62 : decode cX10_init 62 = .ok (.aload_n 0, 1) := by decide +kernel
theorem dX10_init_63 : decode cX10_init 63 = .ok (.getfield 20, 3) := by decide +kernel
theorem dX10_init_66 : decode cX10_init 66 = .ok (.iload_n 2, 1) := by decide +kernel
theorem dX10_init_67 : decode cX10_init 67 = .ok (.new 18, 3) := by decide +kernel
theorem dX10_init_70 : decode cX10_init 70 = .ok (.dup, 1) := by decide +kernel
theorem dX10_init_71 : decode cX10_init 71 = .ok (.aload_n 1, 1) := by decide +kernel
theorem dX10_init_72 : decode cX10_init 72 = .ok (.iload_n 2, 1) := by decide +kernel
theorem dX10_init_73 : decode cX10_init 73 = .ok (.aaload, 1) := by decide +kernel
theorem dX10_init_74 : decode cX10_init 74 = .ok (.invokespecial 33, 3) := by decide +kernel
theorem dX10_init_77 : decode cX10_init 77 = .ok (.aastore, 1) := by decide +kernel
theorem dX10_init_78 : decode cX10_init 78 = .ok (.iinc 2 1, 3) := by decide +kernel
theorem dX10_init_81 : decode cX10_init 81 = .ok (.goto (-30), 3) := by decide +kernel
theorem dX10_init_84 : decode cX10_init 84 = .ok (.return_, 1) := by decide +kernel
theorem dX10_clear_0 : decode cX10_clear 0 = .ok (.aload_n 0, 1) := by decide +kernel
theorem dX10_clear_1 : decode cX10_clear 1 = .ok (.getfield 9, 3) := by decide +kernel
theorem dX10_clear_4 : decode cX10_clear 4 = .ok (.iconst 0, 1) := by decide +kernel
theorem dX10_clear_5 : decode cX10_clear 5 = .ok (.invokestatic 36, 3) := by decide +kernel
theorem dX10_clear_8 : decode cX10_clear 8 = .ok (.aload_n 0, 1) := by decide +kernel
theorem dX10_clear_9 : decode cX10_clear 9 = .ok (.getfield 15, 3) := by decide +kernel
theorem dX10_clear_12 : decode cX10_clear 12 = .ok (.iconst 0, 1) := by decide +kernel
theorem dX10_clear_13 : decode cX10_clear 13 = .ok (.invokestatic 36, 3) := by decide +kernel
theorem dX10_clear_16 : decode cX10_clear 16 = .ok (.aload_n 0, 1) := by decide +kernel
theorem dX10_clear_17 : decode cX10_clear 17 = .ok (.iconst 0, 1) := by decide +kernel
theorem dX10_clear_18 : decode cX10_clear 18 = .ok (.putfield 42, 3) := by decide +kernel
theorem dX10_clear_21 : decode cX10_clear 21 = .ok (.aload_n 0, 1) := by decide +kernel
theorem dX10_clear_22 : decode cX10_clear 22 = .ok (.iconst 0, 1) := by decide +kernel
theorem dX10_clear_23 : decode cX10_clear 23 = .ok (.putfield 46, 3) := by decide +kernel
theorem dX10_clear_26 : decode cX10_clear 26 = .ok (.return_, 1) := by decide +kernel
theorem dX10_addThread_0 : decode cX10_addThread 0 = .ok (.aload_n 0, 1) := by decide +kernel
theorem dX10_addThread_1 : decode cX10_addThread 1 = .ok (.getfield 42, 3) := by decide +kernel
theorem dX10_addThread_4 : decode cX10_addThread 4 = .ok (.ifCond .lt 46, 3) := by decide +kernel
theorem dX10_addThread_7 : decode cX10_addThread 7 = .ok (.aload_n 0, 1) := by decide +kernel
theorem dX10_addThread_8 : decode cX10_addThread 8 = .ok (.getfield 42, 3) := by decide +kernel
theorem dX10_addThread_11 : decode cX10_addThread 11 = .ok (.iconst 3, 1) := by decide +kernel
theorem dX10_addThread_12 : decode cX10_addThread 12 = .ok (.if_icmp .ge 38, 3) := by decide +kernel
theorem dX10_addThread_15 : decode cX10_addThread 15 = .ok (.aload_n 0, 1) := by decide +kernel
theorem dX10_addThread_16 : decode cX10_addThread 16 = .ok (.getfield 20, 3) := by decide +kernel
theorem dX10_addThread_19 : decode cX10_addThread 19 = .ok (.aload_n 0, 1) := by decide +kernel
theorem dX10_addThread_20 : decode cX10_addThread 20 = .ok (.getfield 42, 3) := by decide +kernel
theorem dX10_addThread_23 : decode cX10_addThread 23 = .ok (.aaload, 1) := by decide +kernel
theorem dX10_addThread_24 : decode cX10_addThread 24 = .ok (.astore_n 2, 1) := by decide +kernel
theorem dX10_addThread_25 : decode cX10_addThread 25 = .ok (.aload_n 2, 1) := by decide +kernel
theorem dX10_addThread_26 : decode cX10_addThread 26 = .ok (.iload_n 1, 1) := by decide +kernel
theorem dX10_addThread_27 : decode cX10_addThread 27 = .ok (.putfield 49, 3) := by decide +kernel
theorem dX10_addThread_30 : decode cX10_addThread 30 = .ok (.aload_n 2, 1) := by decide +kernel
theorem dX10_addThread_31 : decode cX10_addThread 31 = .ok (.iconst 0, 1) := by decide +kernel
theorem dX10_addThread_32 : decode cX10_addThread 32 = .ok (.putfield 52, 3) := by decide +kernel
theorem dX10_addThread_35 : decode cX10_addThread 35 = .ok (.aload_n 2, 1) := by decide +kernel
theorem dX10_addThread_36 : decode cX10_addThread 36 = .ok (.iconst 0, 1) := by decide +kernel
theorem dX10_addThread_37 : decode cX10_addThread 37 = .ok (.invokevirtual 55, 3) := by decide +kernel
theorem dX10_addThread_40 : decode cX10_addThread 40 = .ok (.aload_n 0, 1) := by decide +kernel
theorem dX10_addThread_41 : decode cX10_addThread 41 = .ok (.dup, 1) := by decide +kernel
theorem dX10_addThread_42 : decode cX10_addThread 42 = .ok (.getfield 42, 3) := by decide +kernel
theorem dX10_addThread_45 : decode cX10_addThread 45 = .ok (.iconst 1, 1) := by decide +kernel
theorem dX10_addThread_46 : decode cX10_addThread 46 = .ok (.iadd, 1) := by decide +kernel
theorem dX10_addThread_47 : decode cX10_addThread 47 = .ok (.putfield 42, 3) := by decide +kernel
theorem dX10_addThread_50 : decode cX10_addThread 50 = .ok (.return_, 1) := by decide +kernel
theorem dX10_hasThread_0 : decode cX10_hasThread 0 = .ok (.iload_n 1, 1) := by decide +kernel
theorem dX10_hasThread_1 : decode cX10_hasThread 1 = .ok (.ifCond .lt 20, 3) := by decide +kernel
theorem dX10_hasThread_4 : decode cX10_hasThread 4 = .ok (.iload_n 1, 1) := by decide +kernel
theorem dX10_hasThread_5 : decode cX10_hasThread 5 = .ok (.aload_n 0, 1) := by decide +kernel
theorem dX10_hasThread_6 : decode cX10_hasThread 6 = .ok (.getfield 42, 3) := by decide +kernel
theorem dX10_hasThread_9 : decode cX10_hasThread 9 = .ok (.if_icmp .ge 12, 3) := by decide +kernel
theorem dX10_hasThread_12 : decode cX10_hasThread 12 = .ok (.iload_n 1, 1) := by decide +kernel
theorem dX10_hasThread_13 : decode cX10_hasThread 13 = .ok (.iconst 3, 1) := by decide +kernel
theorem dX10_hasThread_14 : decode cX10_hasThread 14 = .ok (.if_icmp .ge 7, 3) := by decide +kernel
theorem dX10_hasThread_17 : decode cX10_hasThread 17 = .ok (.iconst 1, 1) := by decide +kernel
theorem dX10_hasThread_18 : decode cX10_hasThread 18 = .ok (.goto 4, 3) := by decide +kernel
theorem dX10_hasThread_21 : decode cX10_hasThread 21 = .ok (.iconst 0, 1) := by decide +kernel
theorem dX10_hasThread_22 : decode cX10_hasThread 22 = .ok (.ireturn, 1) := by decide +kernel
theorem dX10_threadsDone_0 : decode cX10_threadsDone 0 = .ok (.iconst 0, 1) := by decide +kernel
theorem dX10_threadsDone_1 : decode cX10_threadsDone 1 = .ok (.istore_n 1, 1) := by decide +kernel
theorem dX10_threadsDone_2 : decode cX10_threadsDone 2 = .ok (.iconst 0, 1) := by decide +kernel
theorem dX10_threadsDone_3 : decode cX10_threadsDone 3 = .ok (.istore_n 2, 1) := by decide +kernel
theorem dX10_threadsDone_4 : decode cX10_threadsDone 4 = .ok (.iload_n 2, 1) := by decide +kernel
theorem dX10_threadsDone_5 : decode cX10_threadsDone 5 = .ok (.aload_n 0, 1) := by decide +kernel
theorem dX10_threadsDone_6 : decode cX10_threadsDone 6 = .ok (.getfield 42, 3) := by decide +kernel
theorem dX10_threadsDone_9 : decode cX10_threadsDone 9 = .ok (.if_icmp .ge 30, 3) := by decide +kernel
theorem dX10_threadsDone_12 : decode cX10_threadsDone 12 = .ok (.iload_n 2, 1) := by decide +kernel
theorem dX10_threadsDone_13 : decode cX10_threadsDone 13 = .ok (.iconst 3, 1) := by decide +kernel
theorem dX10_threadsDone_14 : decode cX10_threadsDone 14 = .ok (.if_icmp .ge 25, 3) := by decide +kernel
theorem dX10_threadsDone_17 : decode cX10_threadsDone 17 = .ok (.aload_n 0, 1) := by decide +kernel
theorem dX10_threadsDone_18 : decode cX10_threadsDone 18 = .ok (.getfield 20, 3) := by decide +kernel
theorem dX10_threadsDone_21 : decode cX10_threadsDone 21 = .ok (.iload_n 2, 1) := by decide +kernel
theorem dX10_threadsDone_22 : decode cX10_threadsDone 22 = .ok (.aaload, 1) := by decide +kernel
theorem dX10_threadsDone_23 : decode cX10_threadsDone 23 = .ok (.getfield 59, 3) := by decide +kernel
theorem dX10_threadsDone_26 : decode cX10_threadsDone 26 = .ok (.iconst 2, 1) := by decide +kernel
theorem dX10_threadsDone_27 : decode cX10_threadsDone 27 = .ok (.if_icmp .ne 6, 3) := by decide +kernel
theorem dX10_threadsDone_30 : decode cX10_threadsDone 30 = .ok (.iinc 1 1, 3) := by decide +kernel
theorem dX10_threadsDone_33 : decode cX10_threadsDone 33 = .ok (.iinc 2 1, 3) := by decide +kernel
theorem dX10_threadsDone_36 : decode cX10_threadsDone 36 = .ok (.goto (-32), 3) := by decide +kernel
theorem dX10_threadsDone_39 : decode cX10_threadsDone 39 = .ok (.iload_n 1, 1) := by decide +kernel
theorem dX10_threadsDone_40 : decode cX10_threadsDone 40 = .ok (.ireturn, 1) := by decide +kernel
theorem dX10_demand_0 : decode cX10_demand 0 = .ok (.aload_n 0, 1) := by decide +kernel
theorem dX10_demand_1 : decode cX10_demand 1 = .ok (.getfield 46, 3) := by decide +kernel
theorem dX10_demand_4 : decode cX10_demand 4 = .ok (.ifCond .lt 51, 3) := by decide +kernel
theorem dX10_demand_7 : decode cX10_demand 7 = .ok (.aload_n 0, 1) := by decide +kernel
theorem dX10_demand_8 : decode cX10_demand 8 = .ok (.getfield 46, 3) := by decide +kernel
theorem dX10_demand_11 : decode cX10_demand 11 = .ok (.iconst 4, 1) := by decide +kernel
theorem dX10_demand_12 : decode cX10_demand 12 = .ok (.if_icmp .ge 43, 3) := by decide +kernel
theorem dX10_demand_15 : decode cX10_demand 15 = .ok (.aload_n 0, 1) := by decide +kernel
theorem dX10_demand_16 : decode cX10_demand 16 = .ok (.getfield 24, 3) := by decide +kernel
theorem dX10_demand_19 : decode cX10_demand 19 = .ok (.aload_n 0, 1) := by decide +kernel
theorem dX10_demand_20 : decode cX10_demand 20 = .ok (.getfield 46, 3) := by decide +kernel
theorem dX10_demand_23 : decode cX10_demand 23 = .ok (.iload_n 1, 1) := by decide +kernel
theorem dX10_demand_24 : decode cX10_demand 24 = .ok (.iastore, 1) := by decide +kernel
theorem dX10_demand_25 : decode cX10_demand 25 = .ok (.aload_n 0, 1) := by decide +kernel
theorem dX10_demand_26 : decode cX10_demand 26 = .ok (.getfield 27, 3) := by decide +kernel
theorem dX10_demand_29 : decode cX10_demand 29 = .ok (.aload_n 0, 1) := by decide +kernel
theorem dX10_demand_30 : decode cX10_demand 30 = .ok (.getfield 46, 3) := by decide +kernel
theorem dX10_demand_33 : decode cX10_demand 33 = .ok (.iload_n 2, 1) := by decide +kernel
theorem dX10_demand_34 : decode cX10_demand 34 = .ok (.iastore, 1) := by decide +kernel
theorem dX10_demand_35 : decode cX10_demand 35 = .ok (.aload_n 0, 1) := by decide +kernel
theorem dX10_demand_36 : decode cX10_demand 36 = .ok (.getfield 30, 3) := by decide +kernel
theorem dX10_demand_39 : decode cX10_demand 39 = .ok (.aload_n 0, 1) := by decide +kernel
theorem dX10_demand_40 : decode cX10_demand 40 = .ok (.getfield 46, 3) := by decide +kernel
theorem dX10_demand_43 : decode cX10_demand 43 = .ok (.iload_n 3, 1) := by decide +kernel
theorem dX10_demand_44 : decode cX10_demand 44 = .ok (.iastore, 1) := by decide +kernel
theorem dX10_demand_45 : decode cX10_demand 45 = .ok (.aload_n 0, 1) := by decide +kernel
theorem dX10_demand_46 : decode cX10_demand 46 = .ok (.dup, 1) := by decide +kernel
theorem dX10_demand_47 : decode cX10_demand 47 = .ok (.getfield 46, 3) := by decide +kernel
theorem dX10_demand_50 : decode cX10_demand 50 = .ok (.iconst 1, 1) := by decide +kernel
theorem dX10_demand_51 : decode cX10_demand 51 = .ok (.iadd, 1) := by decide +kernel
theorem dX10_demand_52 : decode cX10_demand 52 = .ok (.putfield 46, 3) := by decide +kernel
theorem dX10_demand_55 : decode cX10_demand 55 = .ok (.return_, 1) := by decide +kernel
theorem dX10_valueFor_0 : decode cX10_valueFor 0 = .ok (.iload_n 2, 1) := by decide +kernel
theorem dX10_valueFor_1 : decode cX10_valueFor 1 = .ok (.invokestatic 62, 3) := by decide +kernel
theorem dX10_valueFor_4 : decode cX10_valueFor 4 = .ok (.ifCond .ne 5, 3) := by decide +kernel
theorem dX10_valueFor_7 : decode cX10_valueFor 7 = .ok (.iconst 0, 1) := by decide +kernel
theorem dX10_valueFor_8 : decode cX10_valueFor 8 = .ok (.ireturn, 1) := by decide +kernel
theorem dX10_valueFor_9 : decode cX10_valueFor 9 = .ok (.aload_n 1, 1) := by decide +kernel
theorem dX10_valueFor_10 : decode cX10_valueFor 10 = .ok (.getfield 66, 3) := by decide +kernel
theorem dX10_valueFor_13 : decode cX10_valueFor 13 = .ok (.iload_n 2, 1) := by decide +kernel
theorem dX10_valueFor_14 : decode cX10_valueFor 14 = .ok (.invokevirtual 70, 3) := by decide +kernel
theorem dX10_valueFor_17 : decode cX10_valueFor 17 = .ok (.ifCond .eq 15, 3) := by decide +kernel
theorem dX10_valueFor_20 : decode cX10_valueFor 20 = .ok (.aload_n 1, 1) := by decide +kernel
theorem dX10_valueFor_21 : decode cX10_valueFor 21 = .ok (.getfield 66, 3) := by decide +kernel
theorem dX10_valueFor_24 : decode cX10_valueFor 24 = .ok (.getfield 75, 3) := by decide +kernel
theorem dX10_valueFor_27 : decode cX10_valueFor 27 = .ok (.iload_n 2, 1) := by decide +kernel
theorem dX10_valueFor_28 : decode cX10_valueFor 28 = .ok (.iaload, 1) := by decide +kernel
theorem dX10_valueFor_29 : decode cX10_valueFor 29 = .ok (.goto 9, 3) := by decide +kernel
theorem dX10_valueFor_32 : decode cX10_valueFor 32 = .ok (.aload_n 0, 1) := by decide +kernel
theorem dX10_valueFor_33 : decode cX10_valueFor 33 = .ok (.getfield 9, 3) := by decide +kernel
theorem dX10_valueFor_36 : decode cX10_valueFor 36 = .ok (.iload_n 2, 1) := by decide +kernel
theorem dX10_valueFor_37 : decode cX10_valueFor 37 = .ok (.iaload, 1) := by decide +kernel
theorem dX10_valueFor_38 : decode cX10_valueFor 38 = .ok (.ireturn, 1) := by decide +kernel
theorem dX10_store_0 : decode cX10_store 0 = .ok (.iload_n 1, 1) := by decide +kernel
theorem dX10_store_1 : decode cX10_store 1 = .ok (.invokestatic 62, 3) := by decide +kernel
theorem dX10_store_4 : decode cX10_store 4 = .ok (.ifCond .ne 4, 3) := by decide +kernel
theorem dX10_store_7 : decode cX10_store 7 = .ok (.return_, 1) := by decide +kernel
theorem dX10_store_8 : decode cX10_store 8 = .ok (.aload_n 0, 1) := by decide +kernel
theorem dX10_store_9 : decode cX10_store 9 = .ok (.getfield 9, 3) := by decide +kernel
theorem dX10_store_12 : decode cX10_store 12 = .ok (.iload_n 1, 1) := by decide +kernel
theorem dX10_store_13 : decode cX10_store 13 = .ok (.iload_n 2, 1) := by decide +kernel
theorem dX10_store_14 : decode cX10_store 14 = .ok (.iastore, 1) := by decide +kernel
theorem dX10_store_15 : decode cX10_store 15 = .ok (.aload_n 0, 1) := by decide +kernel
theorem dX10_store_16 : decode cX10_store 16 = .ok (.getfield 15, 3) := by decide +kernel
theorem dX10_store_19 : decode cX10_store 19 = .ok (.iload_n 1, 1) := by decide +kernel
theorem dX10_store_20 : decode cX10_store 20 = .ok (.dup2, 1) := by decide +kernel
theorem dX10_store_21 : decode cX10_store 21 = .ok (.iaload, 1) := by decide +kernel
theorem dX10_store_22 : decode cX10_store 22 = .ok (.iconst 1, 1) := by decide +kernel
theorem dX10_store_23 : decode cX10_store 23 = .ok (.iadd, 1) := by decide +kernel
theorem dX10_store_24 : decode cX10_store 24 = .ok (.iastore, 1) := by decide +kernel
theorem dX10_store_25 : decode cX10_store 25 = .ok (.iconst 0, 1) := by decide +kernel
theorem dX10_store_26 : decode cX10_store 26 = .ok (.istore_n 3, 1) := by decide +kernel
theorem dX10_store_27 : decode cX10_store 27 = .ok (.iload_n 3, 1) := by decide +kernel
theorem dX10_store_28 : decode cX10_store 28 = .ok (.aload_n 0, 1) := by decide +kernel
theorem dX10_store_29 : decode cX10_store 29 = .ok (.getfield 42, 3) := by decide +kernel
theorem dX10_store_32 : decode cX10_store 32 = .ok (.if_icmp .ge 52, 3) := by decide +kernel
theorem dX10_store_35 : decode cX10_store 35 = .ok (.iload_n 3, 1) := by decide +kernel
theorem dX10_store_36 : decode cX10_store 36 = .ok (.iconst 3, 1) := by decide +kernel
theorem dX10_store_37 : decode cX10_store 37 = .ok (.if_icmp .ge 47, 3) := by decide +kernel
theorem dX10_store_40 : decode cX10_store 40 = .ok (.aload_n 0, 1) := by decide +kernel
theorem dX10_store_41 : decode cX10_store 41 = .ok (.getfield 20, 3) := by decide +kernel
theorem dX10_store_44 : decode cX10_store 44 = .ok (.iload_n 3, 1) := by decide +kernel
theorem dX10_store_45 : decode cX10_store 45 = .ok (.aaload, 1) := by decide +kernel
theorem dX10_store_46 : decode cX10_store 46 = .ok (.getfield 59, 3) := by decide +kernel
theorem dX10_store_49 : decode cX10_store 49 = .ok (.iconst 1, 1) := by decide +kernel
theorem dX10_store_50 : decode cX10_store 50 = .ok (.if_icmp .ne 28, 3) := by decide +kernel
theorem dX10_store_53 : decode cX10_store 53 = .ok (.aload_n 0, 1) := by decide +kernel
theorem dX10_store_54 : decode cX10_store 54 = .ok (.getfield 20, 3) := by decide +kernel
theorem dX10_store_57 : decode cX10_store 57 = .ok (.iload_n 3, 1) := by decide +kernel
theorem dX10_store_58 : decode cX10_store 58 = .ok (.aaload, 1) := by decide +kernel
theorem dX10_store_59 : decode cX10_store 59 = .ok (.getfield 78, 3) := by decide +kernel
theorem dX10_store_62 : decode cX10_store 62 = .ok (.iload_n 1, 1) := by decide +kernel
theorem dX10_store_63 : decode cX10_store 63 = .ok (.invokevirtual 70, 3) := by decide +kernel
theorem dX10_store_66 : decode cX10_store 66 = .ok (.ifCond .eq 12, 3) := by decide +kernel
theorem dX10_store_69 : decode cX10_store 69 = .ok (.aload_n 0, 1) := by decide +kernel
theorem dX10_store_70 : decode cX10_store 70 = .ok (.getfield 20, 3) := by decide +kernel
theorem dX10_store_73 : decode cX10_store 73 = .ok (.iload_n 3, 1) := by decide +kernel
theorem dX10_store_74 : decode cX10_store 74 = .ok (.aaload, 1) := by decide +kernel
theorem dX10_store_75 : decode cX10_store 75 = .ok (.invokevirtual 81, 3) := by decide +kernel
theorem dX10_store_78 : decode cX10_store 78 = .ok (.iinc 3 1, 3) := by decide +kernel
theorem dX10_store_81 : decode cX10_store 81 = .ok (.goto (-54), 3) := by decide +kernel
theorem dX10_store_84 : decode cX10_store 84 = .ok (.return_, 1) := by decide +kernel
theorem dX10_advance_0 : decode cX10_advance 0 = .ok (.iconst 0, 1) := by decide +kernel
theorem dX10_advance_1 : decode cX10_advance 1 = .ok (.istore_n 2, 1) := by decide +kernel
theorem dX10_advance_2 : decode cX10_advance 2 = .ok (.aload_n 1, 1) := by decide +kernel
theorem dX10_advance_3 : decode cX10_advance 3 = .ok (.getfield 84, 3) := by decide +kernel
theorem dX10_advance_6 : decode cX10_advance 6 = .ok (.aload_n 1, 1) := by decide +kernel
theorem dX10_advance_7 : decode cX10_advance 7 = .ok (.getfield 88, 3) := by decide +kernel
theorem dX10_advance_10 : decode cX10_advance 10 = .ok (.invokevirtual 91, 3) := by decide +kernel
theorem dX10_advance_13 : decode cX10_advance 13 = .ok (.ifCond .eq 33, 3) := by decide +kernel
theorem dX10_advance_16 : decode cX10_advance 16 = .ok (.aload_n 0, 1) := by decide +kernel
theorem dX10_advance_17 : decode cX10_advance 17 = .ok (.aload_n 1, 1) := by decide +kernel
theorem dX10_advance_18 : decode cX10_advance 18 = .ok (.aload_n 1, 1) := by decide +kernel
theorem dX10_advance_19 : decode cX10_advance 19 = .ok (.getfield 84, 3) := by decide +kernel
theorem dX10_advance_22 : decode cX10_advance 22 = .ok (.getfield 96, 3) := by decide +kernel
theorem dX10_advance_25 : decode cX10_advance 25 = .ok (.aload_n 1, 1) := by decide +kernel
theorem dX10_advance_26 : decode cX10_advance 26 = .ok (.getfield 88, 3) := by decide +kernel
theorem dX10_advance_29 : decode cX10_advance 29 = .ok (.caload, 1) := by decide +kernel
theorem dX10_advance_30 : decode cX10_advance 30 = .ok (.aload_n 1, 1) := by decide +kernel
theorem dX10_advance_31 : decode cX10_advance 31 = .ok (.getfield 84, 3) := by decide +kernel
theorem dX10_advance_34 : decode cX10_advance 34 = .ok (.getfield 100, 3) := by decide +kernel
theorem dX10_advance_37 : decode cX10_advance 37 = .ok (.aload_n 1, 1) := by decide +kernel
theorem dX10_advance_38 : decode cX10_advance 38 = .ok (.getfield 88, 3) := by decide +kernel
theorem dX10_advance_41 : decode cX10_advance 41 = .ok (.iaload, 1) := by decide +kernel
theorem dX10_advance_42 : decode cX10_advance 42 = .ok (.invokevirtual 101, 3) := by decide +kernel
theorem dX10_advance_45 : decode cX10_advance 45 = .ok (.istore_n 2, 1) := by decide +kernel
theorem dX10_advance_46 : decode cX10_advance 46 = .ok (.iload_n 2, 1) := by decide +kernel
theorem dX10_advance_47 : decode cX10_advance 47 = .ok (.ifCond .ne 23, 3) := by decide +kernel
theorem dX10_advance_50 : decode cX10_advance 50 = .ok (.aload_n 1, 1) := by decide +kernel
theorem dX10_advance_51 : decode cX10_advance 51 = .ok (.getfield 84, 3) := by decide +kernel
theorem dX10_advance_54 : decode cX10_advance 54 = .ok (.aload_n 1, 1) := by decide +kernel
theorem dX10_advance_55 : decode cX10_advance 55 = .ok (.getfield 88, 3) := by decide +kernel
theorem dX10_advance_58 : decode cX10_advance 58 = .ok (.invokevirtual 91, 3) := by decide +kernel
theorem dX10_advance_61 : decode cX10_advance 61 = .ok (.ifCond .ne 9, 3) := by decide +kernel
theorem dX10_advance_64 : decode cX10_advance 64 = .ok (.aload_n 0, 1) := by decide +kernel
theorem dX10_advance_65 : decode cX10_advance 65 = .ok (.aload_n 1, 1) := by decide +kernel
theorem dX10_advance_66 : decode cX10_advance 66 = .ok (.invokevirtual 105, 3) := by decide +kernel
theorem dX10_advance_69 : decode cX10_advance 69 = .ok (.istore_n 2, 1) := by decide +kernel
theorem dX10_advance_70 : decode cX10_advance 70 = .ok (.iload_n 2, 1) := by decide +kernel
theorem dX10_advance_71 : decode cX10_advance 71 = .ok (.ireturn, 1) := by decide +kernel
theorem dX10_execute_0 : decode cX10_execute 0 = .ok (.iload_n 2, 1) := by decide +kernel
theorem dX10_execute_1 : decode cX10_execute 1 = .ok (.lookupswitch 202 #[(33, 161), (40, 173), (43, 115), (45, 131), (63, 147), (114, 91), (119, 100), (120, 167), (123, 173), (124, 181)], 91) := by decide +kernel
theorem dX10_execute_92 : decode cX10_execute 92 = .ok (.aload_n 0, 1) := by decide +kernel
theorem dX10_execute_93 : decode cX10_execute 93 = .ok (.aload_n 1, 1) := by decide +kernel
theorem dX10_execute_94 : decode cX10_execute 94 = .ok (.iload_n 3, 1) := by decide +kernel
theorem dX10_execute_95 : decode cX10_execute 95 = .ok (.invokevirtual 109, 3) := by decide +kernel
theorem dX10_execute_98 : decode cX10_execute 98 = .ok (.goto 109, 3) := by decide +kernel
theorem dX10_execute_101 : decode cX10_execute 101 = .ok (.aload_n 1, 1) := by decide +kernel
theorem dX10_execute_102 : decode cX10_execute 102 = .ok (.getfield 66, 3) := by decide +kernel
theorem dX10_execute_105 : decode cX10_execute 105 = .ok (.iload_n 3, 1) := by decide +kernel
theorem dX10_execute_106 : decode cX10_execute 106 = .ok (.aload_n 1, 1) := by decide +kernel
theorem dX10_execute_107 : decode cX10_execute 107 = .ok (.getfield 113, 3) := by decide +kernel
theorem dX10_execute_110 : decode cX10_execute 110 = .ok (.invokevirtual 116, 3) := by decide +kernel
theorem dX10_execute_113 : decode cX10_execute 113 = .ok (.goto 94, 3) := by decide +kernel
theorem dX10_execute_116 : decode cX10_execute 116 = .ok (.aload_n 1, 1) := by decide +kernel
theorem dX10_execute_117 : decode cX10_execute 117 = .ok (.aload_n 1, 1) := by decide +kernel
theorem dX10_execute_118 : decode cX10_execute 118 = .ok (.getfield 113, 3) := by decide +kernel
theorem dX10_execute_121 : decode cX10_execute 121 = .ok (.iload_n 3, 1) := by decide +kernel
theorem dX10_execute_122 : decode cX10_execute 122 = .ok (.iadd, 1) := by decide +kernel
theorem dX10_execute_123 : decode cX10_execute 123 = .ok (.invokestatic 120, 3) := by decide +kernel
theorem dX10_execute_126 : decode cX10_execute 126 = .ok (.putfield 113, 3) := by decide +kernel
theorem dX10_execute_129 : decode cX10_execute 129 = .ok (.goto 78, 3) := by decide +kernel
theorem dX10_execute_132 : decode cX10_execute 132 = .ok (.aload_n 1, 1) := by decide +kernel
theorem dX10_execute_133 : decode cX10_execute 133 = .ok (.aload_n 1, 1) := by decide +kernel
theorem dX10_execute_134 : decode cX10_execute 134 = .ok (.getfield 113, 3) := by decide +kernel
theorem dX10_execute_137 : decode cX10_execute 137 = .ok (.iload_n 3, 1) := by decide +kernel
theorem dX10_execute_138 : decode cX10_execute 138 = .ok (.isub, 1) := by decide +kernel
theorem dX10_execute_139 : decode cX10_execute 139 = .ok (.invokestatic 120, 3) := by decide +kernel
theorem dX10_execute_142 : decode cX10_execute 142 = .ok (.putfield 113, 3) := by decide +kernel
theorem dX10_execute_145 : decode cX10_execute 145 = .ok (.goto 62, 3) := by decide +kernel
theorem dX10_execute_148 : decode cX10_execute 148 = .ok (.aload_n 1, 1) := by decide +kernel
theorem dX10_execute_149 : decode cX10_execute 149 = .ok (.getfield 113, 3) := by decide +kernel
theorem dX10_execute_152 : decode cX10_execute 152 = .ok (.iload_n 3, 1) := by decide +kernel
theorem dX10_execute_153 : decode cX10_execute 153 = .ok (.if_icmp .ge 54, 3) := by decide +kernel
theorem dX10_execute_156 : decode cX10_execute 156 = .ok (.aload_n 0, 1) := by decide +kernel
theorem dX10_execute_157 : decode cX10_execute 157 = .ok (.aload_n 1, 1) := by decide +kernel
theorem dX10_execute_158 : decode cX10_execute 158 = .ok (.invokevirtual 124, 3) := by decide +kernel
theorem dX10_execute_161 : decode cX10_execute 161 = .ok (.ireturn, 1) := by decide +kernel
theorem dX10_execute_162 : decode cX10_execute 162 = .ok (.aload_n 0, 1) := by decide +kernel
theorem dX10_execute_163 : decode cX10_execute 163 = .ok (.aload_n 1, 1) := by decide +kernel
theorem dX10_execute_164 : decode cX10_execute 164 = .ok (.invokevirtual 124, 3) := by decide +kernel
theorem dX10_execute_167 : decode cX10_execute 167 = .ok (.ireturn, 1) := by decide +kernel
theorem dX10_execute_168 : decode cX10_execute 168 = .ok (.aload_n 0, 1) := by decide +kernel
theorem dX10_execute_169 : decode cX10_execute 169 = .ok (.aload_n 1, 1) := by decide +kernel
theorem dX10_execute_170 : decode cX10_execute 170 = .ok (.invokevirtual 127, 3) := by decide +kernel
theorem dX10_execute_173 : decode cX10_execute 173 = .ok (.ireturn, 1) := by decide +kernel
theorem dX10_execute_174 : decode cX10_execute 174 = .ok (.aload_n 1, 1) := by decide +kernel
theorem dX10_execute_175 : decode cX10_execute 175 = .ok (.iload_n 2, 1) := by decide +kernel
theorem dX10_execute_176 : decode cX10_execute 176 = .ok (.invokevirtual 130, 3) := by decide +kernel
theorem dX10_execute_179 : decode cX10_execute 179 = .ok (.goto 28, 3) := by decide +kernel
theorem dX10_execute_182 : decode cX10_execute 182 = .ok (.aload_n 1, 1) := by decide +kernel
theorem dX10_execute_183 : decode cX10_execute 183 = .ok (.invokevirtual 134, 3) := by decide +kernel
theorem dX10_execute_186 : decode cX10_execute 186 = .ok (.aload_n 1, 1) := by decide +kernel
theorem dX10_execute_187 : decode cX10_execute 187 = .ok (.aload_n 1, 1) := by decide +kernel
theorem dX10_execute_188 : decode cX10_execute 188 = .ok (.getfield 84, 3) := by decide +kernel
theorem dX10_execute_191 : decode cX10_execute 191 = .ok (.aload_n 1, 1) := by decide +kernel
theorem dX10_execute_192 : decode cX10_execute 192 = .ok (.getfield 88, 3) := by decide +kernel
theorem dX10_execute_195 : decode cX10_execute 195 = .ok (.invokevirtual 137, 3) := by decide +kernel
theorem dX10_execute_198 : decode cX10_execute 198 = .ok (.putfield 88, 3) := by decide +kernel
theorem dX10_execute_201 : decode cX10_execute 201 = .ok (.iconst 0, 1) := by decide +kernel
theorem dX10_execute_202 : decode cX10_execute 202 = .ok (.ireturn, 1) := by decide +kernel
theorem dX10_execute_203 : decode cX10_execute 203 = .ok (.aload_n 1, 1) := by decide +kernel
theorem dX10_execute_204 : decode cX10_execute 204 = .ok (.invokevirtual 134, 3) := by decide +kernel
theorem dX10_execute_207 : decode cX10_execute 207 = .ok (.aload_n 1, 1) := by decide +kernel
theorem dX10_execute_208 : decode cX10_execute 208 = .ok (.dup, 1) := by decide +kernel
theorem dX10_execute_209 : decode cX10_execute 209 = .ok (.getfield 88, 3) := by decide +kernel
theorem dX10_execute_212 : decode cX10_execute 212 = .ok (.iconst 1, 1) := by decide +kernel
theorem dX10_execute_213 : decode cX10_execute 213 = .ok (.iadd, 1) := by decide +kernel
theorem dX10_execute_214 : decode cX10_execute 214 = .ok (.putfield 88, 3) := by decide +kernel
theorem dX10_execute_217 : decode cX10_execute 217 = .ok (.iconst 0, 1) := by decide +kernel
theorem dX10_execute_218 : decode cX10_execute 218 = .ok (.ireturn, 1) := by decide +kernel
theorem dX10_read_0 : decode cX10_read 0 = .ok (.iload_n 2, 1) := by decide +kernel
theorem dX10_read_1 : decode cX10_read 1 = .ok (.invokestatic 62, 3) := by decide +kernel
theorem dX10_read_4 : decode cX10_read 4 = .ok (.ifCond .ne 4, 3) := by decide +kernel
theorem dX10_read_7 : decode cX10_read 7 = .ok (.return_, 1) := by decide +kernel
theorem dX10_read_8 : decode cX10_read 8 = .ok (.aload_n 1, 1) := by decide +kernel
theorem dX10_read_9 : decode cX10_read 9 = .ok (.aload_n 0, 1) := by decide +kernel
theorem dX10_read_10 : decode cX10_read 10 = .ok (.aload_n 1, 1) := by decide +kernel
theorem dX10_read_11 : decode cX10_read 11 = .ok (.iload_n 2, 1) := by decide +kernel
theorem dX10_read_12 : decode cX10_read 12 = .ok (.invokevirtual 140, 3) := by decide +kernel
theorem dX10_read_15 : decode cX10_read 15 = .ok (.putfield 113, 3) := by decide +kernel
theorem dX10_read_18 : decode cX10_read 18 = .ok (.aload_n 1, 1) := by decide +kernel
theorem dX10_read_19 : decode cX10_read 19 = .ok (.getfield 66, 3) := by decide +kernel
theorem dX10_read_22 : decode cX10_read 22 = .ok (.iload_n 2, 1) := by decide +kernel
theorem dX10_read_23 : decode cX10_read 23 = .ok (.invokevirtual 70, 3) := by decide +kernel
theorem dX10_read_26 : decode cX10_read 26 = .ok (.ifCond .ne 28, 3) := by decide +kernel
theorem dX10_read_29 : decode cX10_read 29 = .ok (.aload_n 1, 1) := by decide +kernel
theorem dX10_read_30 : decode cX10_read 30 = .ok (.getfield 78, 3) := by decide +kernel
theorem dX10_read_33 : decode cX10_read 33 = .ok (.iload_n 2, 1) := by decide +kernel
theorem dX10_read_34 : decode cX10_read 34 = .ok (.invokevirtual 70, 3) := by decide +kernel
theorem dX10_read_37 : decode cX10_read 37 = .ok (.ifCond .ne 17, 3) := by decide +kernel
theorem dX10_read_40 : decode cX10_read 40 = .ok (.aload_n 1, 1) := by decide +kernel
theorem dX10_read_41 : decode cX10_read 41 = .ok (.getfield 78, 3) := by decide +kernel
theorem dX10_read_44 : decode cX10_read 44 = .ok (.iload_n 2, 1) := by decide +kernel
theorem dX10_read_45 : decode cX10_read 45 = .ok (.aload_n 0, 1) := by decide +kernel
theorem dX10_read_46 : decode cX10_read 46 = .ok (.getfield 15, 3) := by decide +kernel
theorem dX10_read_49 : decode cX10_read 49 = .ok (.iload_n 2, 1) := by decide +kernel
theorem dX10_read_50 : decode cX10_read 50 = .ok (.iaload, 1) := by decide +kernel
theorem dX10_read_51 : decode cX10_read 51 = .ok (.invokevirtual 116, 3) := by decide +kernel
theorem dX10_read_54 : decode cX10_read 54 = .ok (.return_, 1) := by decide +kernel
theorem dX10_retry_0 : decode cX10_retry 0 = .ok (.aload_n 1, 1) := by decide +kernel
theorem dX10_retry_1 : decode cX10_retry 1 = .ok (.bipush 40, 2) := by decide +kernel
theorem dX10_retry_3 : decode cX10_retry 3 = .ok (.invokevirtual 144, 3) := by decide +kernel
theorem dX10_retry_6 : decode cX10_retry 6 = .ok (.istore_n 2, 1) := by decide +kernel
theorem dX10_retry_7 : decode cX10_retry 7 = .ok (.iload_n 2, 1) := by decide +kernel
theorem dX10_retry_8 : decode cX10_retry 8 = .ok (.ifCond .lt 27, 3) := by decide +kernel
theorem dX10_retry_11 : decode cX10_retry 11 = .ok (.iload_n 2, 1) := by decide +kernel
theorem dX10_retry_12 : decode cX10_retry 12 = .ok (.iconst 3, 1) := by decide +kernel
theorem dX10_retry_13 : decode cX10_retry 13 = .ok (.if_icmp .ge 22, 3) := by decide +kernel
theorem dX10_retry_16 : decode cX10_retry 16 = .ok (.aload_n 1, 1) := by decide +kernel
theorem dX10_retry_17 : decode cX10_retry 17 = .ok (.getfield 148, 3) := by decide +kernel
theorem dX10_retry_20 : decode cX10_retry 20 = .ok (.iload_n 2, 1) := by decide +kernel
theorem dX10_retry_21 : decode cX10_retry 21 = .ok (.aaload, 1) := by decide +kernel
theorem dX10_retry_22 : decode cX10_retry 22 = .ok (.iconst 1, 1) := by decide +kernel
theorem dX10_retry_23 : decode cX10_retry 23 = .ok (.putfield 152, 3) := by decide +kernel
theorem dX10_retry_26 : decode cX10_retry 26 = .ok (.aload_n 1, 1) := by decide +kernel
theorem dX10_retry_27 : decode cX10_retry 27 = .ok (.iload_n 2, 1) := by decide +kernel
theorem dX10_retry_28 : decode cX10_retry 28 = .ok (.iconst 1, 1) := by decide +kernel
theorem dX10_retry_29 : decode cX10_retry 29 = .ok (.iadd, 1) := by decide +kernel
theorem dX10_retry_30 : decode cX10_retry 30 = .ok (.putfield 158, 3) := by decide +kernel
theorem dX10_retry_33 : decode cX10_retry 33 = .ok (.iconst 0, 1) := by decide +kernel
theorem dX10_retry_34 : decode cX10_retry 34 = .ok (.ireturn, 1) := by decide +kernel
theorem dX10_retry_35 : decode cX10_retry 35 = .ok (.aload_n 0, 1) := by decide +kernel
theorem dX10_retry_36 : decode cX10_retry 36 = .ok (.aload_n 1, 1) := by decide +kernel
theorem dX10_retry_37 : decode cX10_retry 37 = .ok (.invokevirtual 161, 3) := by decide +kernel
theorem dX10_retry_40 : decode cX10_retry 40 = .ok (.ifCond .ne 9, 3) := by decide +kernel
theorem dX10_retry_43 : decode cX10_retry 43 = .ok (.aload_n 1, 1) := by decide +kernel
theorem dX10_retry_44 : decode cX10_retry 44 = .ok (.invokevirtual 81, 3) := by decide +kernel
theorem dX10_retry_47 : decode cX10_retry 47 = .ok (.iconst 2, 1) := by decide +kernel
theorem dX10_retry_48 : decode cX10_retry 48 = .ok (.ireturn, 1) := by decide +kernel
theorem dX10_retry_49 : decode cX10_retry 49 = .ok (.aload_n 1, 1) := by decide +kernel
theorem dX10_retry_50 : decode cX10_retry 50 = .ok (.iconst 1, 1) := by decide +kernel
theorem dX10_retry_51 : decode cX10_retry 51 = .ok (.putfield 59, 3) := by decide +kernel
theorem dX10_retry_54 : decode cX10_retry 54 = .ok (.iconst 3, 1) := by decide +kernel
theorem dX10_retry_55 : decode cX10_retry 55 = .ok (.ireturn, 1) := by decide +kernel
theorem dX10_abandon_0 : decode cX10_abandon 0 = .ok (.aload_n 1, 1) := by decide +kernel
theorem dX10_abandon_1 : decode cX10_abandon 1 = .ok (.bipush 123, 2) := by decide +kernel
theorem dX10_abandon_3 : decode cX10_abandon 3 = .ok (.invokevirtual 144, 3) := by decide +kernel
theorem dX10_abandon_6 : decode cX10_abandon 6 = .ok (.istore_n 2, 1) := by decide +kernel
theorem dX10_abandon_7 : decode cX10_abandon 7 = .ok (.iload_n 2, 1) := by decide +kernel
theorem dX10_abandon_8 : decode cX10_abandon 8 = .ok (.ifCond .lt 10, 3) := by decide +kernel
theorem dX10_abandon_11 : decode cX10_abandon 11 = .ok (.aload_n 1, 1) := by decide +kernel
theorem dX10_abandon_12 : decode cX10_abandon 12 = .ok (.iload_n 2, 1) := by decide +kernel
theorem dX10_abandon_13 : decode cX10_abandon 13 = .ok (.putfield 158, 3) := by decide +kernel
theorem dX10_abandon_16 : decode cX10_abandon 16 = .ok (.iconst 0, 1) := by decide +kernel
theorem dX10_abandon_17 : decode cX10_abandon 17 = .ok (.ireturn, 1) := by decide +kernel
theorem dX10_abandon_18 : decode cX10_abandon 18 = .ok (.aload_n 1, 1) := by decide +kernel
theorem dX10_abandon_19 : decode cX10_abandon 19 = .ok (.iconst 3, 1) := by decide +kernel
theorem dX10_abandon_20 : decode cX10_abandon 20 = .ok (.invokevirtual 55, 3) := by decide +kernel
theorem dX10_abandon_23 : decode cX10_abandon 23 = .ok (.iconst 4, 1) := by decide +kernel
theorem dX10_abandon_24 : decode cX10_abandon 24 = .ok (.ireturn, 1) := by decide +kernel
theorem dX10_commit_0 : decode cX10_commit 0 = .ok (.aload_n 0, 1) := by decide +kernel
theorem dX10_commit_1 : decode cX10_commit 1 = .ok (.aload_n 1, 1) := by decide +kernel
theorem dX10_commit_2 : decode cX10_commit 2 = .ok (.invokevirtual 161, 3) := by decide +kernel
theorem dX10_commit_5 : decode cX10_commit 5 = .ok (.ifCond .ne 9, 3) := by decide +kernel
theorem dX10_commit_8 : decode cX10_commit 8 = .ok (.aload_n 1, 1) := by decide +kernel
theorem dX10_commit_9 : decode cX10_commit 9 = .ok (.invokevirtual 81, 3) := by decide +kernel
theorem dX10_commit_12 : decode cX10_commit 12 = .ok (.iconst 2, 1) := by decide +kernel
theorem dX10_commit_13 : decode cX10_commit 13 = .ok (.ireturn, 1) := by decide +kernel
theorem dX10_commit_14 : decode cX10_commit 14 = .ok (.aload_n 0, 1) := by decide +kernel
theorem dX10_commit_15 : decode cX10_commit 15 = .ok (.aload_n 1, 1) := by decide +kernel
theorem dX10_commit_16 : decode cX10_commit 16 = .ok (.invokevirtual 165, 3) := by decide +kernel
theorem dX10_commit_19 : decode cX10_commit 19 = .ok (.ifCond .ne 10, 3) := by decide +kernel
theorem dX10_commit_22 : decode cX10_commit 22 = .ok (.aload_n 1, 1) := by decide +kernel
theorem dX10_commit_23 : decode cX10_commit 23 = .ok (.iconst 3, 1) := by decide +kernel
theorem dX10_commit_24 : decode cX10_commit 24 = .ok (.invokevirtual 55, 3) := by decide +kernel
theorem dX10_commit_27 : decode cX10_commit 27 = .ok (.iconst 4, 1) := by decide +kernel
theorem dX10_commit_28 : decode cX10_commit 28 = .ok (.ireturn, 1) := by decide +kernel
theorem dX10_commit_29 : decode cX10_commit 29 = .ok (.iconst 0, 1) := by decide +kernel
theorem dX10_commit_30 : decode cX10_commit 30 = .ok (.istore_n 2, 1) := by decide +kernel
theorem dX10_commit_31 : decode cX10_commit 31 = .ok (.iload_n 2, 1) := by decide +kernel
theorem dX10_commit_32 : decode cX10_commit 32 = .ok (.bipush 6, 2) := by decide +kernel
theorem dX10_commit_34 : decode cX10_commit 34 = .ok (.if_icmp .ge 34, 3) := by decide +kernel
theorem dX10_commit_37 : decode cX10_commit 37 = .ok (.aload_n 1, 1) := by decide +kernel
theorem dX10_commit_38 : decode cX10_commit 38 = .ok (.getfield 66, 3) := by decide +kernel
theorem dX10_commit_41 : decode cX10_commit 41 = .ok (.iload_n 2, 1) := by decide +kernel
theorem dX10_commit_42 : decode cX10_commit 42 = .ok (.invokevirtual 70, 3) := by decide +kernel
theorem dX10_commit_45 : decode cX10_commit 45 = .ok (.ifCond .eq 17, 3) := by decide +kernel
theorem dX10_commit_48 : decode cX10_commit 48 = .ok (.aload_n 0, 1) := by decide +kernel
theorem dX10_commit_49 : decode cX10_commit 49 = .ok (.iload_n 2, 1) := by decide +kernel
theorem dX10_commit_50 : decode cX10_commit 50 = .ok (.aload_n 1, 1) := by decide +kernel
theorem dX10_commit_51 : decode cX10_commit 51 = .ok (.getfield 66, 3) := by decide +kernel
theorem dX10_commit_54 : decode cX10_commit 54 = .ok (.getfield 75, 3) := by decide +kernel
theorem dX10_commit_57 : decode cX10_commit 57 = .ok (.iload_n 2, 1) := by decide +kernel
theorem dX10_commit_58 : decode cX10_commit 58 = .ok (.iaload, 1) := by decide +kernel
theorem dX10_commit_59 : decode cX10_commit 59 = .ok (.invokevirtual 168, 3) := by decide +kernel
theorem dX10_commit_62 : decode cX10_commit 62 = .ok (.iinc 2 1, 3) := by decide +kernel
theorem dX10_commit_65 : decode cX10_commit 65 = .ok (.goto (-34), 3) := by decide +kernel
theorem dX10_commit_68 : decode cX10_commit 68 = .ok (.aload_n 1, 1) := by decide +kernel
theorem dX10_commit_69 : decode cX10_commit 69 = .ok (.dup, 1) := by decide +kernel
theorem dX10_commit_70 : decode cX10_commit 70 = .ok (.getfield 49, 3) := by decide +kernel
theorem dX10_commit_73 : decode cX10_commit 73 = .ok (.iconst 1, 1) := by decide +kernel
theorem dX10_commit_74 : decode cX10_commit 74 = .ok (.isub, 1) := by decide +kernel
theorem dX10_commit_75 : decode cX10_commit 75 = .ok (.putfield 49, 3) := by decide +kernel
theorem dX10_commit_78 : decode cX10_commit 78 = .ok (.aload_n 1, 1) := by decide +kernel
theorem dX10_commit_79 : decode cX10_commit 79 = .ok (.aload_n 1, 1) := by decide +kernel
theorem dX10_commit_80 : decode cX10_commit 80 = .ok (.getfield 49, 3) := by decide +kernel
theorem dX10_commit_83 : decode cX10_commit 83 = .ok (.ifCond .le 7, 3) := by decide +kernel
theorem dX10_commit_86 : decode cX10_commit 86 = .ok (.iconst 0, 1) := by decide +kernel
theorem dX10_commit_87 : decode cX10_commit 87 = .ok (.goto 4, 3) := by decide +kernel
theorem dX10_commit_90 : decode cX10_commit 90 = .ok (.iconst 2, 1) := by decide +kernel
theorem dX10_commit_91 : decode cX10_commit 91 = .ok (.invokevirtual 55, 3) := by decide +kernel
theorem dX10_commit_94 : decode cX10_commit 94 = .ok (.iconst 1, 1) := by decide +kernel
theorem dX10_commit_95 : decode cX10_commit 95 = .ok (.ireturn, 1) := by decide +kernel
theorem dX10_readsAreCurrent_0 : decode cX10_readsAreCurrent 0 = .ok (.iconst 0, 1) := by decide +kernel
theorem dX10_readsAreCurrent_1 : decode cX10_readsAreCurrent 1 = .ok (.istore_n 2, 1) := by decide +kernel
theorem dX10_readsAreCurrent_2 : decode cX10_readsAreCurrent 2 = .ok (.iload_n 2, 1) := by decide +kernel
theorem dX10_readsAreCurrent_3 : decode cX10_readsAreCurrent 3 = .ok (.bipush 6, 2) := by decide +kernel
theorem dX10_readsAreCurrent_5 : decode cX10_readsAreCurrent 5 = .ok (.if_icmp .ge 40, 3) := by decide +kernel
theorem dX10_readsAreCurrent_8 : decode cX10_readsAreCurrent 8 = .ok (.aload_n 1, 1) := by decide +kernel
theorem dX10_readsAreCurrent_9 : decode cX10_readsAreCurrent 9 = .ok (.getfield 78, 3) := by decide +kernel
theorem dX10_readsAreCurrent_12 : decode cX10_readsAreCurrent 12 = .ok (.iload_n 2, 1) := by decide +kernel
theorem dX10_readsAreCurrent_13 : decode cX10_readsAreCurrent 13 = .ok (.invokevirtual 70, 3) := by decide +kernel
theorem dX10_readsAreCurrent_16 : decode cX10_readsAreCurrent 16 = .ok (.ifCond .eq 23, 3) := by decide +kernel
theorem dX10_readsAreCurrent_19 : decode cX10_readsAreCurrent 19 = .ok (.aload_n 1, 1) := by decide +kernel
theorem dX10_readsAreCurrent_20 : decode cX10_readsAreCurrent 20 = .ok (.getfield 78, 3) := by decide +kernel
theorem dX10_readsAreCurrent_23 : decode cX10_readsAreCurrent 23 = .ok (.getfield 75, 3) := by decide +kernel
theorem dX10_readsAreCurrent_26 : decode cX10_readsAreCurrent 26 = .ok (.iload_n 2, 1) := by decide +kernel
theorem dX10_readsAreCurrent_27 : decode cX10_readsAreCurrent 27 = .ok (.iaload, 1) := by decide +kernel
theorem dX10_readsAreCurrent_28 : decode cX10_readsAreCurrent 28 = .ok (.aload_n 0, 1) := by decide +kernel
theorem dX10_readsAreCurrent_29 : decode cX10_readsAreCurrent 29 = .ok (.getfield 15, 3) := by decide +kernel
theorem dX10_readsAreCurrent_32 : decode cX10_readsAreCurrent 32 = .ok (.iload_n 2, 1) := by decide +kernel
theorem dX10_readsAreCurrent_33 : decode cX10_readsAreCurrent 33 = .ok (.iaload, 1) := by decide +kernel
theorem dX10_readsAreCurrent_34 : decode cX10_readsAreCurrent 34 = .ok (.if_icmp .eq 5, 3) := by decide +kernel
theorem dX10_readsAreCurrent_37 : decode cX10_readsAreCurrent 37 = .ok (.iconst 0, 1) := by decide +kernel
theorem dX10_readsAreCurrent_38 : decode cX10_readsAreCurrent 38 = .ok (.ireturn, 1) := by decide +kernel
theorem dX10_readsAreCurrent_39 : decode cX10_readsAreCurrent 39 = .ok (.iinc 2 1, 3) := by decide +kernel
theorem dX10_readsAreCurrent_42 : decode cX10_readsAreCurrent 42 = .ok (.goto (-40), 3) := by decide +kernel
theorem dX10_readsAreCurrent_45 : decode cX10_readsAreCurrent 45 = .ok (.iconst 1, 1) := by decide +kernel
theorem dX10_readsAreCurrent_46 : decode cX10_readsAreCurrent 46 = .ok (.ireturn, 1) := by decide +kernel
theorem dX10_invariantsWouldHold_0 : decode cX10_invariantsWouldHold 0 = .ok (.iconst 0, 1) := by decide +kernel
theorem dX10_invariantsWouldHold_1 : decode cX10_invariantsWouldHold 1 = .ok (.istore_n 2, 1) := by decide +kernel
theorem dX10_invariantsWouldHold_2 : decode cX10_invariantsWouldHold 2 = .ok (.iload_n 2, 1) := by decide +kernel
theorem dX10_invariantsWouldHold_3 : decode cX10_invariantsWouldHold 3 = .ok (.aload_n 0, 1) := by decide +kernel
theorem dX10_invariantsWouldHold_4 : decode cX10_invariantsWouldHold 4 = .ok (.getfield 46, 3) := by decide +kernel
theorem dX10_invariantsWouldHold_7 : decode cX10_invariantsWouldHold 7 = .ok (.if_icmp .ge 48, 3) := by decide +kernel
theorem dX10_invariantsWouldHold_10 : decode cX10_invariantsWouldHold 10 = .ok (.iload_n 2, 1) := by decide +kernel
theorem dX10_invariantsWouldHold_11 : decode cX10_invariantsWouldHold 11 = .ok (.iconst 4, 1) := by decide +kernel
theorem dX10_invariantsWouldHold_12 : decode cX10_invariantsWouldHold 12 = .ok (.if_icmp .ge 43, 3) := by decide +kernel
theorem dX10_invariantsWouldHold_15 : decode cX10_invariantsWouldHold 15 = .ok (.aload_n 0, 1) := by decide +kernel
theorem dX10_invariantsWouldHold_16 : decode cX10_invariantsWouldHold 16 = .ok (.aload_n 1, 1) := by decide +kernel
theorem dX10_invariantsWouldHold_17 : decode cX10_invariantsWouldHold 17 = .ok (.aload_n 0, 1) := by decide +kernel
theorem dX10_invariantsWouldHold_18 : decode cX10_invariantsWouldHold 18 = .ok (.getfield 24, 3) := by decide +kernel
theorem dX10_invariantsWouldHold_21 : decode cX10_invariantsWouldHold 21 = .ok (.iload_n 2, 1) := by decide +kernel
theorem dX10_invariantsWouldHold_22 : decode cX10_invariantsWouldHold 22 = .ok (.iaload, 1) := by decide +kernel
theorem dX10_invariantsWouldHold_23 : decode cX10_invariantsWouldHold 23 = .ok (.invokevirtual 140, 3) := by decide +kernel
theorem dX10_invariantsWouldHold_26 : decode cX10_invariantsWouldHold 26 = .ok (.aload_n 0, 1) := by decide +kernel
theorem dX10_invariantsWouldHold_27 : decode cX10_invariantsWouldHold 27 = .ok (.aload_n 1, 1) := by decide +kernel
theorem dX10_invariantsWouldHold_28 : decode cX10_invariantsWouldHold 28 = .ok (.aload_n 0, 1) := by decide +kernel
theorem dX10_invariantsWouldHold_29 : decode cX10_invariantsWouldHold 29 = .ok (.getfield 27, 3) := by decide +kernel
theorem dX10_invariantsWouldHold_32 : decode cX10_invariantsWouldHold 32 = .ok (.iload_n 2, 1) := by decide +kernel
theorem dX10_invariantsWouldHold_33 : decode cX10_invariantsWouldHold 33 = .ok (.iaload, 1) := by decide +kernel
theorem dX10_invariantsWouldHold_34 : decode cX10_invariantsWouldHold 34 = .ok (.invokevirtual 140, 3) := by decide +kernel
theorem dX10_invariantsWouldHold_37 : decode cX10_invariantsWouldHold 37 = .ok (.iadd, 1) := by decide +kernel
theorem dX10_invariantsWouldHold_38 : decode cX10_invariantsWouldHold 38 = .ok (.aload_n 0, 1) := by decide +kernel
theorem dX10_invariantsWouldHold_39 : decode cX10_invariantsWouldHold 39 = .ok (.getfield 30, 3) := by decide +kernel
theorem dX10_invariantsWouldHold_42 : decode cX10_invariantsWouldHold 42 = .ok (.iload_n 2, 1) := by decide +kernel
theorem dX10_invariantsWouldHold_43 : decode cX10_invariantsWouldHold 43 = .ok (.iaload, 1) := by decide +kernel
theorem dX10_invariantsWouldHold_44 : decode cX10_invariantsWouldHold 44 = .ok (.if_icmp .ge 5, 3) := by decide +kernel
theorem dX10_invariantsWouldHold_47 : decode cX10_invariantsWouldHold 47 = .ok (.iconst 0, 1) := by decide +kernel
theorem dX10_invariantsWouldHold_48 : decode cX10_invariantsWouldHold 48 = .ok (.ireturn, 1) := by decide +kernel
theorem dX10_invariantsWouldHold_49 : decode cX10_invariantsWouldHold 49 = .ok (.iinc 2 1, 3) := by decide +kernel
theorem dX10_invariantsWouldHold_52 : decode cX10_invariantsWouldHold 52 = .ok (.goto (-50), 3) := by decide +kernel
theorem dX10_invariantsWouldHold_55 : decode cX10_invariantsWouldHold 55 = .ok (.iconst 1, 1) := by decide +kernel
theorem dX10_invariantsWouldHold_56 : decode cX10_invariantsWouldHold 56 = .ok (.ireturn, 1) := by decide +kernel
theorem dX10_copyFrom_0 : decode cX10_copyFrom 0 = .ok (.aload_n 1, 1) := by decide +kernel
theorem dX10_copyFrom_1 : decode cX10_copyFrom 1 = .ok (.getfield 9, 3) := by decide +kernel
theorem dX10_copyFrom_4 : decode cX10_copyFrom 4 = .ok (.iconst 0, 1) := by decide +kernel
theorem dX10_copyFrom_5 : decode cX10_copyFrom 5 = .ok (.aload_n 0, 1) := by decide +kernel
theorem dX10_copyFrom_6 : decode cX10_copyFrom 6 = .ok (.getfield 9, 3) := by decide +kernel
theorem dX10_copyFrom_9 : decode cX10_copyFrom 9 = .ok (.iconst 0, 1) := by decide +kernel
theorem dX10_copyFrom_10 : decode cX10_copyFrom 10 = .ok (.bipush 6, 2) := by decide +kernel
theorem dX10_copyFrom_12 : decode cX10_copyFrom 12 = .ok (.invokestatic 171, 3) := by decide +kernel
theorem dX10_copyFrom_15 : decode cX10_copyFrom 15 = .ok (.aload_n 1, 1) := by decide +kernel
theorem dX10_copyFrom_16 : decode cX10_copyFrom 16 = .ok (.getfield 15, 3) := by decide +kernel
theorem dX10_copyFrom_19 : decode cX10_copyFrom 19 = .ok (.iconst 0, 1) := by decide +kernel
theorem dX10_copyFrom_20 : decode cX10_copyFrom 20 = .ok (.aload_n 0, 1) := by decide +kernel
theorem dX10_copyFrom_21 : decode cX10_copyFrom 21 = .ok (.getfield 15, 3) := by decide +kernel
theorem dX10_copyFrom_24 : decode cX10_copyFrom 24 = .ok (.iconst 0, 1) := by decide +kernel
theorem dX10_copyFrom_25 : decode cX10_copyFrom 25 = .ok (.bipush 6, 2) := by decide +kernel
theorem dX10_copyFrom_27 : decode cX10_copyFrom 27 = .ok (.invokestatic 171, 3) := by decide +kernel
theorem dX10_copyFrom_30 : decode cX10_copyFrom 30 = .ok (.aload_n 0, 1) := by decide +kernel
theorem dX10_copyFrom_31 : decode cX10_copyFrom 31 = .ok (.aload_n 1, 1) := by decide +kernel
theorem dX10_copyFrom_32 : decode cX10_copyFrom 32 = .ok (.getfield 42, 3) := by decide +kernel
theorem dX10_copyFrom_35 : decode cX10_copyFrom 35 = .ok (.putfield 42, 3) := by decide +kernel
theorem dX10_copyFrom_38 : decode cX10_copyFrom 38 = .ok (.iconst 0, 1) := by decide +kernel
theorem dX10_copyFrom_39 : decode cX10_copyFrom 39 = .ok (.istore_n 2, 1) := by decide +kernel
theorem dX10_copyFrom_40 : decode cX10_copyFrom 40 = .ok (.iload_n 2, 1) := by decide +kernel
theorem dX10_copyFrom_41 : decode cX10_copyFrom 41 = .ok (.iconst 3, 1) := by decide +kernel
theorem dX10_copyFrom_42 : decode cX10_copyFrom 42 = .ok (.if_icmp .ge 24, 3) := by decide +kernel
theorem dX10_copyFrom_45 : decode cX10_copyFrom 45 = .ok (.aload_n 0, 1) := by decide +kernel
theorem dX10_copyFrom_46 : decode cX10_copyFrom 46 = .ok (.getfield 20, 3) := by decide +kernel
theorem dX10_copyFrom_49 : decode cX10_copyFrom 49 = .ok (.iload_n 2, 1) := by decide +kernel
theorem dX10_copyFrom_50 : decode cX10_copyFrom 50 = .ok (.aaload, 1) := by decide +kernel
theorem dX10_copyFrom_51 : decode cX10_copyFrom 51 = .ok (.aload_n 1, 1) := by decide +kernel
theorem dX10_copyFrom_52 : decode cX10_copyFrom 52 = .ok (.getfield 20, 3) := by decide +kernel
theorem dX10_copyFrom_55 : decode cX10_copyFrom 55 = .ok (.iload_n 2, 1) := by decide +kernel
theorem dX10_copyFrom_56 : decode cX10_copyFrom 56 = .ok (.aaload, 1) := by decide +kernel
theorem dX10_copyFrom_57 : decode cX10_copyFrom 57 = .ok (.invokevirtual 177, 3) := by decide +kernel
theorem dX10_copyFrom_60 : decode cX10_copyFrom 60 = .ok (.iinc 2 1, 3) := by decide +kernel
theorem dX10_copyFrom_63 : decode cX10_copyFrom 63 = .ok (.goto (-23), 3) := by decide +kernel
theorem dX10_copyFrom_66 : decode cX10_copyFrom 66 = .ok (.aload_n 1, 1) := by decide +kernel
theorem dX10_copyFrom_67 : decode cX10_copyFrom 67 = .ok (.getfield 24, 3) := by decide +kernel
theorem dX10_copyFrom_70 : decode cX10_copyFrom 70 = .ok (.iconst 0, 1) := by decide +kernel
theorem dX10_copyFrom_71 : decode cX10_copyFrom 71 = .ok (.aload_n 0, 1) := by decide +kernel
theorem dX10_copyFrom_72 : decode cX10_copyFrom 72 = .ok (.getfield 24, 3) := by decide +kernel
theorem dX10_copyFrom_75 : decode cX10_copyFrom 75 = .ok (.iconst 0, 1) := by decide +kernel
theorem dX10_copyFrom_76 : decode cX10_copyFrom 76 = .ok (.iconst 4, 1) := by decide +kernel
theorem dX10_copyFrom_77 : decode cX10_copyFrom 77 = .ok (.invokestatic 171, 3) := by decide +kernel
theorem dX10_copyFrom_80 : decode cX10_copyFrom 80 = .ok (.aload_n 1, 1) := by decide +kernel
theorem dX10_copyFrom_81 : decode cX10_copyFrom 81 = .ok (.getfield 27, 3) := by decide +kernel
theorem dX10_copyFrom_84 : decode cX10_copyFrom 84 = .ok (.iconst 0, 1) := by decide +kernel
theorem dX10_copyFrom_85 : decode cX10_copyFrom 85 = .ok (.aload_n 0, 1) := by decide +kernel
theorem dX10_copyFrom_86 : decode cX10_copyFrom 86 = .ok (.getfield 27, 3) := by decide +kernel
theorem dX10_copyFrom_89 : decode cX10_copyFrom 89 = .ok (.iconst 0, 1) := by decide +kernel
theorem dX10_copyFrom_90 : decode cX10_copyFrom 90 = .ok (.iconst 4, 1) := by decide +kernel
theorem dX10_copyFrom_91 : decode cX10_copyFrom 91 = .ok (.invokestatic 171, 3) := by decide +kernel
theorem dX10_copyFrom_94 : decode cX10_copyFrom 94 = .ok (.aload_n 1, 1) := by decide +kernel
theorem dX10_copyFrom_95 : decode cX10_copyFrom 95 = .ok (.getfield 30, 3) := by decide +kernel
theorem dX10_copyFrom_98 : decode cX10_copyFrom 98 = .ok (.iconst 0, 1) := by decide +kernel
theorem dX10_copyFrom_99 : decode cX10_copyFrom 99 = .ok (.aload_n 0, 1) := by decide +kernel
theorem dX10_copyFrom_100 : decode cX10_copyFrom 100 = .ok (.getfield 30, 3) := by decide +kernel
theorem dX10_copyFrom_103 : decode cX10_copyFrom 103 = .ok (.iconst 0, 1) := by decide +kernel
theorem dX10_copyFrom_104 : decode cX10_copyFrom 104 = .ok (.iconst 4, 1) := by decide +kernel
theorem dX10_copyFrom_105 : decode cX10_copyFrom 105 = .ok (.invokestatic 171, 3) := by decide +kernel
theorem dX10_copyFrom_108 : decode cX10_copyFrom 108 = .ok (.aload_n 0, 1) := by decide +kernel
theorem dX10_copyFrom_109 : decode cX10_copyFrom 109 = .ok (.aload_n 1, 1) := by decide +kernel
theorem dX10_copyFrom_110 : decode cX10_copyFrom 110 = .ok (.getfield 46, 3) := by decide +kernel
theorem dX10_copyFrom_113 : decode cX10_copyFrom 113 = .ok (.putfield 46, 3) := by decide +kernel
theorem dX10_copyFrom_116 : decode cX10_copyFrom 116 = .ok (.return_, 1) := by decide +kernel
theorem dX11_init_0 : decode cX11_init 0 = .ok (.aload_n 0, 1) := by decide +kernel
theorem dX11_init_1 : decode cX11_init 1 = .ok (.invokespecial 1, 3) := by decide +kernel
theorem dX11_init_4 : decode cX11_init 4 = .ok (.aload_n 0, 1) := by decide +kernel
theorem dX11_init_5 : decode cX11_init 5 = .ok (.new 7, 3) := by decide +kernel
theorem dX11_init_8 : decode cX11_init 8 = .ok (.dup, 1) := by decide +kernel
theorem dX11_init_9 : decode cX11_init 9 = .ok (.invokespecial 9, 3) := by decide +kernel
theorem dX11_init_12 : decode cX11_init 12 = .ok (.putfield 10, 3) := by decide +kernel
theorem dX11_init_15 : decode cX11_init 15 = .ok (.aload_n 0, 1) := by decide +kernel
theorem dX11_init_16 : decode cX11_init 16 = .ok (.iconst 3, 1) := by decide +kernel
theorem dX11_init_17 : decode cX11_init 17 = .ok (.anewarray 16, 3) := by decide +kernel
theorem dX11_init_20 : decode cX11_init 20 = .ok (.putfield 18, 3) := by decide +kernel
theorem dX11_init_23 : decode cX11_init 23 = .ok (.aload_n 0, 1) := by decide +kernel
theorem dX11_init_24 : decode cX11_init 24 = .ok (.iconst 2, 1) := by decide +kernel
theorem dX11_init_25 : decode cX11_init 25 = .ok (.anewarray 22, 3) := by decide +kernel
theorem dX11_init_28 : decode cX11_init 28 = .ok (.putfield 24, 3) := by decide +kernel
theorem dX11_init_31 : decode cX11_init 31 = .ok (.aload_n 0, 1) := by decide +kernel
theorem dX11_init_32 : decode cX11_init 32 = .ok (.iconst 2, 1) := by decide +kernel
theorem dX11_init_33 : decode cX11_init 33 = .ok (.newarray .boolean, 2) := by decide +kernel
theorem dX11_init_35 : decode cX11_init 35 = .ok (.putfield 28, 3) := by decide +kernel
theorem dX11_init_38 : decode cX11_init 38 = .ok (.aload_n 0, 1) := by decide +kernel
theorem dX11_init_39 : decode cX11_init 39 = .ok (.new 32, 3) := by decide +kernel
theorem dX11_init_42 : decode cX11_init 42 = .ok (.dup, 1) := by decide +kernel
theorem dX11_init_43 : decode cX11_init 43 = .ok (.invokespecial 34, 3) := by decide +kernel
theorem dX11_init_46 : decode cX11_init 46 = .ok (.putfield 35, 3) := by decide +kernel
theorem dX11_init_49 : decode cX11_init 49 = .ok (.iconst 0, 1) := by decide +kernel
theorem dX11_init_50 : decode cX11_init 50 = .ok (.istore_n 1, 1) := by decide +kernel
theorem dX11_init_51 : decode cX11_init 51 = .ok (.iload_n 1, 1) := by decide +kernel
theorem dX11_init_52 : decode cX11_init 52 = .ok (.iconst 3, 1) := by decide +kernel
theorem dX11_init_53 : decode cX11_init 53 = .ok (.if_icmp .ge 22, 3) := by decide +kernel
theorem dX11_init_56 : decode cX11_init 56 = .ok (.aload_n 0, 1) := by decide +kernel
theorem dX11_init_57 : decode cX11_init 57 = .ok (.getfield 18, 3) := by decide +kernel
theorem dX11_init_60 : decode cX11_init 60 = .ok (.iload_n 1, 1) := by decide +kernel
theorem dX11_init_61 : decode cX11_init 61 = .ok (.new 16, 3) := by decide +kernel
theorem dX11_init_64 : decode cX11_init 64 = .ok (.dup, 1) := by decide +kernel
theorem dX11_init_65 : decode cX11_init 65 = .ok (.invokespecial 39, 3) := by decide +kernel
theorem dX11_init_68 : decode cX11_init 68 = .ok (.aastore, 1) := by decide +kernel
theorem dX11_init_69 : decode cX11_init 69 = .ok (.iinc 1 1, 3) := by decide +kernel
theorem dX11_init_72 : decode cX11_init 72 = .ok (.goto (-21), 3) := by decide +kernel
theorem dX11_init_75 : decode cX11_init 75 = .ok (.aload_n 0, 1) := by decide +kernel
theorem dX11_init_76 : decode cX11_init 76 = .ok (.new 22, 3) := by decide +kernel
theorem dX11_init_79 : decode cX11_init 79 = .ok (.dup, 1) := by decide +kernel
theorem dX11_init_80 : decode cX11_init 80 = .ok (.aload_n 0, 1) := by decide +kernel
theorem dX11_init_81 : decode cX11_init 81 = .ok (.getfield 18, 3) := by decide +kernel
theorem dX11_init_84 : decode cX11_init 84 = .ok (.invokespecial 40, 3) := by decide +kernel
theorem dX11_init_87 : decode cX11_init 87 = .ok (.putfield 43, 3) := by decide +kernel
theorem dX11_init_90 : decode cX11_init 90 = .ok (.aload_n 0, 1) := by decide +kernel
theorem dX11_init_91 : decode cX11_init 91 = .ok (.new 47, 3) := by decide +kernel
theorem dX11_init_94 : decode cX11_init 94 = .ok (.dup, 1) := by decide +kernel
theorem dX11_init_95 : decode cX11_init 95 = .ok (.aload_n 0, 1) := by decide +kernel
theorem dX11_init_96 : decode cX11_init 96 = .ok (.getfield 18, 3) := by decide +kernel
theorem dX11_init_99 : decode cX11_init 99 = .ok (.invokespecial 49, 3) := by decide +kernel
theorem dX11_init_102 : decode cX11_init 102 = .ok (.putfield 50, 3) := by decide +kernel
theorem dX11_init_105 : decode cX11_init 105 = .ok (.iconst 0, 1) := by decide +kernel
theorem dX11_init_106 : decode cX11_init 106 = .ok (.istore_n 1, 1) := by decide +kernel
theorem dX11_init_107 : decode cX11_init 107 = .ok (.iload_n 1, 1) := by decide +kernel
theorem dX11_init_108 : decode cX11_init 108 = .ok (.iconst 2, 1) := by decide +kernel
theorem dX11_init_109 : decode cX11_init 109 = .ok (.if_icmp .ge 26, 3) := by decide +kernel
theorem dX11_init_112 : decode cX11_init 112 = .ok (.aload_n 0, 1) := by decide +kernel
theorem dX11_init_113 : decode cX11_init 113 = .ok (.getfield 24, 3) := by decide +kernel
theorem dX11_init_116 : decode cX11_init 116 = .ok (.iload_n 1, 1) := by decide +kernel
theorem dX11_init_117 : decode cX11_init 117 = .ok (.new 22, 3) := by decide +kernel
theorem dX11_init_120 : decode cX11_init 120 = .ok (.dup, 1) := by decide +kernel
theorem dX11_init_121 : decode cX11_init 121 = .ok (.aload_n 0, 1) := by decide +kernel
theorem dX11_init_122 : decode cX11_init 122 = .ok (.getfield 18, 3) := by decide +kernel
theorem dX11_init_125 : decode cX11_init 125 = .ok (.invokespecial 40, 3) := by decide +kernel
theorem dX11_init_128 : decode cX11_init 128 = .ok (.aastore, 1) := by decide +kernel
theorem dX11_init_129 : decode cX11_init 129 = .ok (.iinc 1 1, 3) := by decide +kernel
theorem dX11_init_132 : decode cX11_init 132 = .ok (.goto (-25), 3) := by decide +kernel
theorem dX11_init_135 : decode cX11_init 135 = .ok (.aload_n 0, 1) := by decide +kernel
theorem dX11_init_136 : decode cX11_init 136 = .ok (.new 22, 3) := by decide +kernel
theorem dX11_init_139 : decode cX11_init 139 = .ok (.dup, 1) := by decide +kernel
theorem dX11_init_140 : decode cX11_init 140 = .ok (.aload_n 0, 1) := by decide +kernel
theorem dX11_init_141 : decode cX11_init 141 = .ok (.getfield 18, 3) := by decide +kernel
theorem dX11_init_144 : decode cX11_init 144 = .ok (.invokespecial 40, 3) := by decide +kernel
theorem dX11_init_147 : decode cX11_init 147 = .ok (.putfield 54, 3) := by decide +kernel
theorem dX11_init_150 : decode cX11_init 150 = .ok (.aload_n 0, 1) := by decide +kernel
theorem dX11_init_151 : decode cX11_init 151 = .ok (.new 57, 3) := by decide +kernel
theorem dX11_init_154 : decode cX11_init 154 = .ok (.dup, 1) := by decide +kernel
theorem dX11_init_155 : decode cX11_init 155 = .ok (.aload_n 0, 1) := by decide +kernel
theorem dX11_init_156 : decode cX11_init 156 = .ok (.getfield 18, 3) := by decide +kernel
theorem dX11_init_159 : decode cX11_init 159 = .ok (.invokespecial 59, 3) := by decide +kernel
theorem dX11_init_162 : decode cX11_init 162 = .ok (.putfield 60, 3) := by decide +kernel
theorem dX11_init_165 : decode cX11_init 165 = .ok (.aload_n 0, 1) := by decide +kernel
theorem dX11_init_166 : decode cX11_init 166 = .ok (.getfield 43, 3) := by decide +kernel
theorem dX11_init_169 : decode cX11_init 169 = .ok (.iconst 1, 1) := by decide +kernel
theorem dX11_init_170 : decode cX11_init 170 = .ok (.invokevirtual 64, 3) := by decide +kernel
theorem dX11_init_173 : decode cX11_init 173 = .ok (.return_, 1) := by decide +kernel
theorem dX11_append_0 : decode cX11_append 0 = .ok (.iload_n 1, 1) := by decide +kernel
theorem dX11_append_1 : decode cX11_append 1 = .ok (.ifCond .lt 10, 3) := by decide +kernel
theorem dX11_append_4 : decode cX11_append 4 = .ok (.iload_n 1, 1) := by decide +kernel
theorem dX11_append_5 : decode cX11_append 5 = .ok (.sipush 255, 3) := by decide +kernel
theorem dX11_append_8 : decode cX11_append 8 = .ok (.if_icmp .le 6, 3) := by decide +kernel
theorem dX11_append_11 : decode cX11_append 11 = .ok (.bipush (-2), 2) := by decide +kernel
theorem dX11_append_13 : decode cX11_append 13 = .ok (.ireturn, 1) := by decide +kernel
theorem dX11_append_14 : decode cX11_append 14 = .ok (.aload_n 0, 1) := by decide +kernel
theorem dX11_append_15 : decode cX11_append 15 = .ok (.getfield 10, 3) := by decide +kernel
theorem dX11_append_18 : decode cX11_append 18 = .ok (.iload_n 1, 1) := by decide +kernel
theorem dX11_append_19 : decode cX11_append 19 = .ok (.i2c, 1) := by decide +kernel
theorem dX11_append_20 : decode cX11_append 20 = .ok (.invokevirtual 68, 3) := by decide +kernel
theorem dX11_append_23 : decode cX11_append 23 = .ok (.ifCond .eq 13, 3) := by decide +kernel
theorem dX11_append_26 : decode cX11_append 26 = .ok (.aload_n 0, 1) := by decide +kernel
theorem dX11_append_27 : decode cX11_append 27 = .ok (.getfield 10, 3) := by decide +kernel
theorem dX11_append_30 : decode cX11_append 30 = .ok (.getfield 72, 3) := by decide +kernel
theorem dX11_append_33 : decode cX11_append 33 = .ok (.goto 5, 3) := by decide +kernel
