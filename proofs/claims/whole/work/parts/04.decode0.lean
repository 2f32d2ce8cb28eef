theorem dX0_init_0 : decode cX0_init 0 = .ok (.aload_n 0, 1) := by decide +kernel
theorem dX0_init_1 : decode cX0_init 1 = .ok (.invokespecial 1, 3) := by decide +kernel
theorem dX0_init_4 : decode cX0_init 4 = .ok (.aload_n 0, 1) := by decide +kernel
theorem dX0_init_5 : decode cX0_init 5 = .ok (.iconst 0, 1) := by decide +kernel
theorem dX0_init_6 : decode cX0_init 6 = .ok (.putfield 7, 3) := by decide +kernel
theorem dX0_init_9 : decode cX0_init 9 = .ok (.aload_n 0, 1) := by decide +kernel
theorem dX0_init_10 : decode cX0_init 10 = .ok (.aload_n 1, 1) := by decide +kernel
theorem dX0_init_11 : decode cX0_init 11 = .ok (.putfield 13, 3) := by decide +kernel
theorem dX0_init_14 : decode cX0_init 14 = .ok (.aload_n 0, 1) := by decide +kernel
theorem dX0_init_15 : decode cX0_init 15 = .ok (.aload_n 1, 1) := by decide +kernel
theorem dX0_init_16 : decode cX0_init 16 = .ok (.invokevirtual 17, 3) := by decide +kernel
theorem dX0_init_19 : decode cX0_init 19 = .ok (.bipush 8, 2) := by decide +kernel
theorem dX0_init_21 : decode cX0_init 21 = .ok (.imul, 1) := by decide +kernel
theorem dX0_init_22 : decode cX0_init 22 = .ok (.putfield 23, 3) := by decide +kernel
theorem dX0_init_25 : decode cX0_init 25 = .ok (.aload_n 0, 1) := by decide +kernel
theorem dX0_init_26 : decode cX0_init 26 = .ok (.iload_n 2, 1) := by decide +kernel
theorem dX0_init_27 : decode cX0_init 27 = .ok (.bipush 8, 2) := by decide +kernel
theorem dX0_init_29 : decode cX0_init 29 = .ok (.imul, 1) := by decide +kernel
theorem dX0_init_30 : decode cX0_init 30 = .ok (.putfield 27, 3) := by decide +kernel
theorem dX0_init_33 : decode cX0_init 33 = .ok (.return_, 1) := by decide +kernel
theorem dX0_isBroken_0 : decode cX0_isBroken 0 = .ok (.aload_n 0, 1) := by decide +kernel
theorem dX0_isBroken_1 : decode cX0_isBroken 1 = .ok (.getfield 7, 3) := by decide +kernel
theorem dX0_isBroken_4 : decode cX0_isBroken 4 = .ok (.ireturn, 1) := by decide +kernel
theorem dX0_nextBits_0 : decode cX0_nextBits 0 = .ok (.iconst 0, 1) := by decide +kernel
theorem dX0_nextBits_1 : decode cX0_nextBits 1 = .ok (.istore_n 2, 1) := by decide +kernel
theorem dX0_nextBits_2 : decode cX0_nextBits 2 = .ok (.iconst 0, 1) := by decide +kernel
theorem dX0_nextBits_3 : decode cX0_nextBits 3 = .ok (.istore_n 3, 1) := by decide +kernel
theorem dX0_nextBits_4 : decode cX0_nextBits 4 = .ok (.iload_n 3, 1) := by decide +kernel
theorem dX0_nextBits_5 : decode cX0_nextBits 5 = .ok (.iload_n 1, 1) := by decide +kernel
theorem dX0_nextBits_6 : decode cX0_nextBits 6 = .ok (.if_icmp .ge 69, 3) := by decide +kernel
theorem dX0_nextBits_9 : decode cX0_nextBits 9 = .ok (.aload_n 0, 1) := by decide +kernel
theorem dX0_nextBits_10 : decode cX0_nextBits 10 = .ok (.getfield 27, 3) := by decide +kernel
theorem dX0_nextBits_13 : decode cX0_nextBits 13 = .ok (.aload_n 0, 1) := by decide +kernel
theorem dX0_nextBits_14 : decode cX0_nextBits 14 = .ok (.getfield 23, 3) := by decide +kernel
theorem dX0_nextBits_17 : decode cX0_nextBits 17 = .ok (.if_icmp .lt 10, 3) := by decide +kernel
theorem dX0_nextBits_20 : decode cX0_nextBits 20 = .ok (.aload_n 0, 1) := by decide +kernel
theorem dX0_nextBits_21 : decode cX0_nextBits 21 = .ok (.iconst 1, 1) := by decide +kernel
theorem dX0_nextBits_22 : decode cX0_nextBits 22 = .ok (.putfield 7, 3) := by decide +kernel
theorem dX0_nextBits_25 : decode cX0_nextBits 25 = .ok (.iconst 0, 1) := by decide +kernel
theorem dX0_nextBits_26 : decode cX0_nextBits 26 = .ok (.ireturn, 1) := by decide +kernel
theorem dX0_nextBits_27 : decode cX0_nextBits 27 = .ok (.iload_n 2, 1) := by decide +kernel
theorem dX0_nextBits_28 : decode cX0_nextBits 28 = .ok (.iconst 2, 1) := by decide +kernel
theorem dX0_nextBits_29 : decode cX0_nextBits 29 = .ok (.imul, 1) := by decide +kernel
theorem dX0_nextBits_30 : decode cX0_nextBits 30 = .ok (.aload_n 0, 1) := by decide +kernel
theorem dX0_nextBits_31 : decode cX0_nextBits 31 = .ok (.getfield 13, 3) := by decide +kernel
theorem dX0_nextBits_34 : decode cX0_nextBits 34 = .ok (.aload_n 0, 1) := by decide +kernel
theorem dX0_nextBits_35 : decode cX0_nextBits 35 = .ok (.getfield 27, 3) := by decide +kernel
theorem dX0_nextBits_38 : decode cX0_nextBits 38 = .ok (.bipush 8, 2) := by decide +kernel
theorem dX0_nextBits_40 : decode cX0_nextBits 40 = .ok (.idiv, 1) := by decide +kernel
theorem dX0_nextBits_41 : decode cX0_nextBits 41 = .ok (.invokevirtual 30, 3) := by decide +kernel
theorem dX0_nextBits_44 : decode cX0_nextBits 44 = .ok (.bipush 7, 2) := by decide +kernel
theorem dX0_nextBits_46 : decode cX0_nextBits 46 = .ok (.aload_n 0, 1) := by decide +kernel
theorem dX0_nextBits_47 : decode cX0_nextBits 47 = .ok (.getfield 27, 3) := by decide +kernel
theorem dX0_nextBits_50 : decode cX0_nextBits 50 = .ok (.bipush 8, 2) := by decide +kernel
theorem dX0_nextBits_52 : decode cX0_nextBits 52 = .ok (.irem, 1) := by decide +kernel
theorem dX0_nextBits_53 : decode cX0_nextBits 53 = .ok (.isub, 1) := by decide +kernel
theorem dX0_nextBits_54 : decode cX0_nextBits 54 = .ok (.ishr, 1) := by decide +kernel
theorem dX0_nextBits_55 : decode cX0_nextBits 55 = .ok (.iconst 1, 1) := by decide +kernel
theorem dX0_nextBits_56 : decode cX0_nextBits 56 = .ok (.iand, 1) := by decide +kernel
theorem dX0_nextBits_57 : decode cX0_nextBits 57 = .ok (.iadd, 1) := by decide +kernel
theorem dX0_nextBits_58 : decode cX0_nextBits 58 = .ok (.istore_n 2, 1) := by decide +kernel
theorem dX0_nextBits_59 : decode cX0_nextBits 59 = .ok (.aload_n 0, 1) := by decide +kernel
theorem dX0_nextBits_60 : decode cX0_nextBits 60 = .ok (.dup, 1) := by decide +kernel
theorem dX0_nextBits_61 : decode cX0_nextBits 61 = .ok (.getfield 27, 3) := by decide +kernel
theorem dX0_nextBits_64 : decode cX0_nextBits 64 = .ok (.iconst 1, 1) := by decide +kernel
theorem dX0_nextBits_65 : decode cX0_nextBits 65 = .ok (.iadd, 1) := by decide +kernel
theorem dX0_nextBits_66 : decode cX0_nextBits 66 = .ok (.putfield 27, 3) := by decide +kernel
theorem dX0_nextBits_69 : decode cX0_nextBits 69 = .ok (.iinc 3 1, 3) := by decide +kernel
theorem dX0_nextBits_72 : decode cX0_nextBits 72 = .ok (.goto (-68), 3) := by decide +kernel
theorem dX0_nextBits_75 : decode cX0_nextBits 75 = .ok (.iload_n 2, 1) := by decide +kernel
theorem dX0_nextBits_76 : decode cX0_nextBits 76 = .ok (.ireturn, 1) := by decide +kernel
theorem dX0_nextGamma_0 : decode cX0_nextGamma 0 = .ok (.iconst 0, 1) := by decide +kernel
theorem dX0_nextGamma_1 : decode cX0_nextGamma 1 = .ok (.istore_n 1, 1) := by decide +kernel
theorem dX0_nextGamma_2 : decode cX0_nextGamma 2 = .ok (.iload_n 1, 1) := by decide +kernel
theorem dX0_nextGamma_3 : decode cX0_nextGamma 3 = .ok (.bipush 15, 2) := by decide +kernel
theorem dX0_nextGamma_5 : decode cX0_nextGamma 5 = .ok (.if_icmp .gt 28, 3) := by decide +kernel
theorem dX0_nextGamma_8 : decode cX0_nextGamma 8 = .ok (.aload_n 0, 1) := by decide +kernel
theorem dX0_nextGamma_9 : decode cX0_nextGamma 9 = .ok (.iconst 1, 1) := by decide +kernel
theorem dX0_nextGamma_10 : decode cX0_nextGamma 10 = .ok (.invokevirtual 34, 3) := by decide +kernel
theorem dX0_nextGamma_13 : decode cX0_nextGamma 13 = .ok (.iconst 1, 1) := by decide +kernel
theorem dX0_nextGamma_14 : decode cX0_nextGamma 14 = .ok (.if_icmp .ne 13, 3) := by decide +kernel
theorem dX0_nextGamma_17 : decode cX0_nextGamma 17 = .ok (.iconst 1, 1) := by decide +kernel
theorem dX0_nextGamma_18 : decode cX0_nextGamma 18 = .ok (.iload_n 1, 1) := by decide +kernel
theorem dX0_nextGamma_19 : decode cX0_nextGamma 19 = .ok (.ishl, 1) := by decide +kernel
theorem dX0_nextGamma_20 : decode cX0_nextGamma 20 = .ok (.aload_n 0, 1) := by decide +kernel
theorem dX0_nextGamma_21 : decode cX0_nextGamma 21 = .ok (.iload_n 1, 1) := by decide +kernel
theorem dX0_nextGamma_22 : decode cX0_nextGamma 22 = .ok (.invokevirtual 34, 3) := by decide +kernel
theorem dX0_nextGamma_25 : decode cX0_nextGamma 25 = .ok (.iadd, 1) := by decide +kernel
theorem dX0_nextGamma_26 : decode cX0_nextGamma 26 = .ok (.ireturn, 1) := by decide +kernel
theorem dX0_nextGamma_27 : decode cX0_nextGamma 27 = .ok (.iinc 1 1, 3) := by decide +kernel
theorem dX0_nextGamma_30 : decode cX0_nextGamma 30 = .ok (.goto (-28), 3) := by decide +kernel
theorem dX0_nextGamma_33 : decode cX0_nextGamma 33 = .ok (.aload_n 0, 1) := by decide +kernel
theorem dX0_nextGamma_34 : decode cX0_nextGamma 34 = .ok (.iconst 1, 1) := by decide +kernel
theorem dX0_nextGamma_35 : decode cX0_nextGamma 35 = .ok (.putfield 7, 3) := by decide +kernel
theorem dX0_nextGamma_38 : decode cX0_nextGamma 38 = .ok (.iconst 0, 1) := by decide +kernel
theorem dX0_nextGamma_39 : decode cX0_nextGamma 39 = .ok (.ireturn, 1) := by decide +kernel
theorem dX0_hasOnlyFillLeft_0 : decode cX0_hasOnlyFillLeft 0 = .ok (.aload_n 0, 1) := by decide +kernel
theorem dX0_hasOnlyFillLeft_1 : decode cX0_hasOnlyFillLeft 1 = .ok (.getfield 23, 3) := by decide +kernel
theorem dX0_hasOnlyFillLeft_4 : decode cX0_hasOnlyFillLeft 4 = .ok (.aload_n 0, 1) := by decide +kernel
theorem dX0_hasOnlyFillLeft_5 : decode cX0_hasOnlyFillLeft 5 = .ok (.getfield 27, 3) := by decide +kernel
theorem dX0_hasOnlyFillLeft_8 : decode cX0_hasOnlyFillLeft 8 = .ok (.isub, 1) := by decide +kernel
theorem dX0_hasOnlyFillLeft_9 : decode cX0_hasOnlyFillLeft 9 = .ok (.istore_n 1, 1) := by decide +kernel
theorem dX0_hasOnlyFillLeft_10 : decode cX0_hasOnlyFillLeft 10 = .ok (.iload_n 1, 1) := by decide +kernel
theorem dX0_hasOnlyFillLeft_11 : decode cX0_hasOnlyFillLeft 11 = .ok (.bipush 8, 2) := by decide +kernel
theorem dX0_hasOnlyFillLeft_13 : decode cX0_hasOnlyFillLeft 13 = .ok (.if_icmp .ge 15, 3) := by decide +kernel
theorem dX0_hasOnlyFillLeft_16 : decode cX0_hasOnlyFillLeft 16 = .ok (.aload_n 0, 1) := by decide +kernel
theorem dX0_hasOnlyFillLeft_17 : decode cX0_hasOnlyFillLeft 17 = .ok (.iload_n 1, 1) := by decide +kernel
theorem dX0_hasOnlyFillLeft_18 : decode cX0_hasOnlyFillLeft 18 = .ok (.invokevirtual 34, 3) := by decide +kernel
theorem dX0_hasOnlyFillLeft_21 : decode cX0_hasOnlyFillLeft 21 = .ok (.ifCond .ne 7, 3) := by decide +kernel
theorem dX0_hasOnlyFillLeft_24 : decode cX0_hasOnlyFillLeft 24 = .ok (.iconst 1, 1) := by decide +kernel
theorem dX0_hasOnlyFillLeft_25 : decode cX0_hasOnlyFillLeft 25 = .ok (.goto 4, 3) := by decide +kernel
theorem dX0_hasOnlyFillLeft_28 : decode cX0_hasOnlyFillLeft 28 = .ok (.iconst 0, 1) := by decide +kernel
theorem dX0_hasOnlyFillLeft_29 : decode cX0_hasOnlyFillLeft 29 = .ok (.ireturn, 1) := by decide +kernel
theorem dX1_init_0 : decode cX1_init 0 = .ok (.aload_n 0, 1) := by decide +kernel
theorem dX1_init_1 : decode cX1_init 1 = .ok (.invokespecial 1, 3) := by decide +kernel
theorem dX1_init_4 : decode cX1_init 4 = .ok (.aload_n 0, 1) := by decide +kernel
theorem dX1_init_5 : decode cX1_init 5 = .ok (.iconst 0, 1) := by decide +kernel
theorem dX1_init_6 : decode cX1_init 6 = .ok (.putfield 7, 3) := by decide +kernel
theorem dX1_init_9 : decode cX1_init 9 = .ok (.aload_n 0, 1) := by decide +kernel
theorem dX1_init_10 : decode cX1_init 10 = .ok (.iconst 0, 1) := by decide +kernel
theorem dX1_init_11 : decode cX1_init 11 = .ok (.putfield 13, 3) := by decide +kernel
theorem dX1_init_14 : decode cX1_init 14 = .ok (.aload_n 0, 1) := by decide +kernel
theorem dX1_init_15 : decode cX1_init 15 = .ok (.aload_n 1, 1) := by decide +kernel
theorem dX1_init_16 : decode cX1_init 16 = .ok (.putfield 16, 3) := by decide +kernel
theorem dX1_init_19 : decode cX1_init 19 = .ok (.return_, 1) := by decide +kernel
theorem dX1_addBits_0 : decode cX1_addBits 0 = .ok (.iload_n 2, 1) := by decide +kernel
theorem dX1_addBits_1 : decode cX1_addBits 1 = .ok (.iconst 1, 1) := by decide +kernel
theorem dX1_addBits_2 : decode cX1_addBits 2 = .ok (.isub, 1) := by decide +kernel
theorem dX1_addBits_3 : decode cX1_addBits 3 = .ok (.istore_n 3, 1) := by decide +kernel
theorem dX1_addBits_4 : decode cX1_addBits 4 = .ok (.iload_n 3, 1) := by decide +kernel
theorem dX1_addBits_5 : decode cX1_addBits 5 = .ok (.ifCond .lt 65, 3) := by decide +kernel
theorem dX1_addBits_8 : decode cX1_addBits 8 = .ok (.aload_n 0, 1) := by decide +kernel
theorem dX1_addBits_9 : decode cX1_addBits 9 = .ok (.aload_n 0, 1) := by decide +kernel
theorem dX1_addBits_10 : decode cX1_addBits 10 = .ok (.getfield 7, 3) := by decide +kernel
theorem dX1_addBits_13 : decode cX1_addBits 13 = .ok (.iconst 2, 1) := by decide +kernel
theorem dX1_addBits_14 : decode cX1_addBits 14 = .ok (.imul, 1) := by decide +kernel
theorem dX1_addBits_15 : decode cX1_addBits 15 = .ok (.iload_n 1, 1) := by decide +kernel
theorem dX1_addBits_16 : decode cX1_addBits 16 = .ok (.iload_n 3, 1) := by decide +kernel
theorem dX1_addBits_17 : decode cX1_addBits 17 = .ok (.ishr, 1) := by decide +kernel
theorem dX1_addBits_18 : decode cX1_addBits 18 = .ok (.iconst 1, 1) := by decide +kernel
theorem dX1_addBits_19 : decode cX1_addBits 19 = .ok (.iand, 1) := by decide +kernel
theorem dX1_addBits_20 : decode cX1_addBits 20 = .ok (.iadd, 1) := by decide +kernel
theorem dX1_addBits_21 : decode cX1_addBits 21 = .ok (.putfield 7, 3) := by decide +kernel
theorem dX1_addBits_24 : decode cX1_addBits 24 = .ok (.aload_n 0, 1) := by decide +kernel
theorem dX1_addBits_25 : decode cX1_addBits 25 = .ok (.dup, 1) := by decide +kernel
theorem dX1_addBits_26 : decode cX1_addBits 26 = .ok (.getfield 13, 3) := by decide +kernel
theorem dX1_addBits_29 : decode cX1_addBits 29 = .ok (.iconst 1, 1) := by decide +kernel
theorem dX1_addBits_30 : decode cX1_addBits 30 = .ok (.iadd, 1) := by decide +kernel
theorem dX1_addBits_31 : decode cX1_addBits 31 = .ok (.putfield 13, 3) := by decide +kernel
theorem dX1_addBits_34 : decode cX1_addBits 34 = .ok (.aload_n 0, 1) := by decide +kernel
theorem dX1_addBits_35 : decode cX1_addBits 35 = .ok (.getfield 13, 3) := by decide +kernel
theorem dX1_addBits_38 : decode cX1_addBits 38 = .ok (.bipush 8, 2) := by decide +kernel
theorem dX1_addBits_40 : decode cX1_addBits 40 = .ok (.if_icmp .ne 24, 3) := by decide +kernel
theorem dX1_addBits_43 : decode cX1_addBits 43 = .ok (.aload_n 0, 1) := by decide +kernel
theorem dX1_addBits_44 : decode cX1_addBits 44 = .ok (.getfield 16, 3) := by decide +kernel
theorem dX1_addBits_47 : decode cX1_addBits 47 = .ok (.aload_n 0, 1) := by decide +kernel
theorem dX1_addBits_48 : decode cX1_addBits 48 = .ok (.getfield 7, 3) := by decide +kernel
theorem dX1_addBits_51 : decode cX1_addBits 51 = .ok (.invokevirtual 20, 3) := by decide +kernel
theorem dX1_addBits_54 : decode cX1_addBits 54 = .ok (.aload_n 0, 1) := by decide +kernel
theorem dX1_addBits_55 : decode cX1_addBits 55 = .ok (.iconst 0, 1) := by decide +kernel
theorem dX1_addBits_56 : decode cX1_addBits 56 = .ok (.putfield 7, 3) := by decide +kernel
theorem dX1_addBits_59 : decode cX1_addBits 59 = .ok (.aload_n 0, 1) := by decide +kernel
theorem dX1_addBits_60 : decode cX1_addBits 60 = .ok (.iconst 0, 1) := by decide +kernel
theorem dX1_addBits_61 : decode cX1_addBits 61 = .ok (.putfield 13, 3) := by decide +kernel
theorem dX1_addBits_64 : decode cX1_addBits 64 = .ok (.iinc 3 (-1), 3) := by decide +kernel
theorem dX1_addBits_67 : decode cX1_addBits 67 = .ok (.goto (-63), 3) := by decide +kernel
theorem dX1_addBits_70 : decode cX1_addBits 70 = .ok (.return_, 1) := by decide +kernel
theorem dX1_addGamma_0 : decode cX1_addGamma 0 = .ok (.iconst 0, 1) := by decide +kernel
theorem dX1_addGamma_1 : decode cX1_addGamma 1 = .ok (.istore_n 2, 1) := by decide +kernel
theorem dX1_addGamma_2 : decode cX1_addGamma 2 = .ok (.iload_n 1, 1) := by decide +kernel
theorem dX1_addGamma_3 : decode cX1_addGamma 3 = .ok (.iconst 2, 1) := by decide +kernel
theorem dX1_addGamma_4 : decode cX1_addGamma 4 = .ok (.idiv, 1) := by decide +kernel
theorem dX1_addGamma_5 : decode cX1_addGamma 5 = .ok (.istore_n 3, 1) := by decide +kernel
theorem dX1_addGamma_6 : decode cX1_addGamma 6 = .ok (.iload_n 3, 1) := by decide +kernel
theorem dX1_addGamma_7 : decode cX1_addGamma 7 = .ok (.ifCond .le 13, 3) := by decide +kernel
theorem dX1_addGamma_10 : decode cX1_addGamma 10 = .ok (.iinc 2 1, 3) := by decide +kernel
theorem dX1_addGamma_13 : decode cX1_addGamma 13 = .ok (.iload_n 3, 1) := by decide +kernel
theorem dX1_addGamma_14 : decode cX1_addGamma 14 = .ok (.iconst 2, 1) := by decide +kernel
theorem dX1_addGamma_15 : decode cX1_addGamma 15 = .ok (.idiv, 1) := by decide +kernel
theorem dX1_addGamma_16 : decode cX1_addGamma 16 = .ok (.istore_n 3, 1) := by decide +kernel
theorem dX1_addGamma_17 : decode cX1_addGamma 17 = .ok (.goto (-11), 3) := by decide +kernel
theorem dX1_addGamma_20 : decode cX1_addGamma 20 = .ok (.aload_n 0, 1) := by decide +kernel
theorem dX1_addGamma_21 : decode cX1_addGamma 21 = .ok (.iconst 0, 1) := by decide +kernel
theorem dX1_addGamma_22 : decode cX1_addGamma 22 = .ok (.iload_n 2, 1) := by decide +kernel
theorem dX1_addGamma_23 : decode cX1_addGamma 23 = .ok (.invokevirtual 26, 3) := by decide +kernel
theorem dX1_addGamma_26 : decode cX1_addGamma 26 = .ok (.aload_n 0, 1) := by decide +kernel
theorem dX1_addGamma_27 : decode cX1_addGamma 27 = .ok (.iload_n 1, 1) := by decide +kernel
theorem dX1_addGamma_28 : decode cX1_addGamma 28 = .ok (.iload_n 2, 1) := by decide +kernel
theorem dX1_addGamma_29 : decode cX1_addGamma 29 = .ok (.iconst 1, 1) := by decide +kernel
theorem dX1_addGamma_30 : decode cX1_addGamma 30 = .ok (.iadd, 1) := by decide +kernel
theorem dX1_addGamma_31 : decode cX1_addGamma 31 = .ok (.invokevirtual 26, 3) := by decide +kernel
theorem dX1_addGamma_34 : decode cX1_addGamma 34 = .ok (.return_, 1) := by decide +kernel
theorem dX1_fillByte_0 : decode cX1_fillByte 0 = .ok (.aload_n 0, 1) := by decide +kernel
theorem dX1_fillByte_1 : decode cX1_fillByte 1 = .ok (.getfield 13, 3) := by decide +kernel
theorem dX1_fillByte_4 : decode cX1_fillByte 4 = .ok (.ifCond .le 15, 3) := by decide +kernel
theorem dX1_fillByte_7 : decode cX1_fillByte 7 = .ok (.aload_n 0, 1) := by decide +kernel
theorem dX1_fillByte_8 : decode cX1_fillByte 8 = .ok (.iconst 0, 1) := by decide +kernel
theorem dX1_fillByte_9 : decode cX1_fillByte 9 = .ok (.bipush 8, 2) := by decide +kernel
theorem dX1_fillByte_11 : decode cX1_fillByte 11 = .ok (.aload_n 0, 1) := by decide +kernel
theorem dX1_fillByte_12 : decode cX1_fillByte 12 = .ok (.getfield 13, 3) := by decide +kernel
theorem dX1_fillByte_15 : decode cX1_fillByte 15 = .ok (.isub, 1) := by decide +kernel
theorem dX1_fillByte_16 : decode cX1_fillByte 16 = .ok (.invokevirtual 26, 3) := by decide +kernel
theorem dX1_fillByte_19 : decode cX1_fillByte 19 = .ok (.return_, 1) := by decide +kernel
theorem dX2_init_0 : decode cX2_init 0 = .ok (.aload_n 0, 1) := by decide +kernel
theorem dX2_init_1 : decode cX2_init 1 = .ok (.invokespecial 1, 3) := by decide +kernel
theorem dX2_init_4 : decode cX2_init 4 = .ok (.aload_n 0, 1) := by decide +kernel
theorem dX2_init_5 : decode cX2_init 5 = .ok (.iconst 0, 1) := by decide +kernel
theorem dX2_init_6 : decode cX2_init 6 = .ok (.putfield 7, 3) := by decide +kernel
theorem dX2_init_9 : decode cX2_init 9 = .ok (.aload_n 0, 1) := by decide +kernel
theorem dX2_init_10 : decode cX2_init 10 = .ok (.aload_n 1, 1) := by decide +kernel
theorem dX2_init_11 : decode cX2_init 11 = .ok (.putfield 13, 3) := by decide +kernel
theorem dX2_init_14 : decode cX2_init 14 = .ok (.aload_n 0, 1) := by decide +kernel
theorem dX2_init_15 : decode cX2_init 15 = .ok (.iload_n 2, 1) := by decide +kernel
theorem dX2_init_16 : decode cX2_init 16 = .ok (.putfield 17, 3) := by decide +kernel
theorem dX2_init_19 : decode cX2_init 19 = .ok (.aload_n 0, 1) := by decide +kernel
theorem dX2_init_20 : decode cX2_init 20 = .ok (.iload_n 3, 1) := by decide +kernel
theorem dX2_init_21 : decode cX2_init 21 = .ok (.putfield 21, 3) := by decide +kernel
theorem dX2_init_24 : decode cX2_init 24 = .ok (.return_, 1) := by decide +kernel
theorem dX2_isBroken_0 : decode cX2_isBroken 0 = .ok (.aload_n 0, 1) := by decide +kernel
theorem dX2_isBroken_1 : decode cX2_isBroken 1 = .ok (.getfield 7, 3) := by decide +kernel
theorem dX2_isBroken_4 : decode cX2_isBroken 4 = .ok (.ireturn, 1) := by decide +kernel
theorem dX2_isAtEnd_0 : decode cX2_isAtEnd 0 = .ok (.aload_n 0, 1) := by decide +kernel
theorem dX2_isAtEnd_1 : decode cX2_isAtEnd 1 = .ok (.getfield 7, 3) := by decide +kernel
theorem dX2_isAtEnd_4 : decode cX2_isAtEnd 4 = .ok (.ifCond .ne 18, 3) := by decide +kernel
theorem dX2_isAtEnd_7 : decode cX2_isAtEnd 7 = .ok (.aload_n 0, 1) := by decide +kernel
theorem dX2_isAtEnd_8 : decode cX2_isAtEnd 8 = .ok (.getfield 17, 3) := by decide +kernel
theorem dX2_isAtEnd_11 : decode cX2_isAtEnd 11 = .ok (.aload_n 0, 1) := by decide +kernel
theorem dX2_isAtEnd_12 : decode cX2_isAtEnd 12 = .ok (.getfield 21, 3) := by decide +kernel
theorem dX2_isAtEnd_15 : decode cX2_isAtEnd 15 = .ok (.if_icmp .ne 7, 3) := by decide +kernel
theorem dX2_isAtEnd_18 : decode cX2_isAtEnd 18 = .ok (.iconst 1, 1) := by decide +kernel
theorem dX2_isAtEnd_19 : decode cX2_isAtEnd 19 = .ok (.goto 4, 3) := by decide +kernel
theorem dX2_isAtEnd_22 : decode cX2_isAtEnd 22 = .ok (.iconst 0, 1) := by decide +kernel
theorem dX2_isAtEnd_23 : decode cX2_isAtEnd 23 = .ok (.ireturn, 1) := by decide +kernel
theorem dX2_place_0 : decode cX2_place 0 = .ok (.aload_n 0, 1) := by decide +kernel
theorem dX2_place_1 : decode cX2_place 1 = .ok (.getfield 17, 3) := by decide +kernel
theorem dX2_place_4 : decode cX2_place 4 = .ok (.ireturn, 1) := by decide +kernel
theorem dX2_next_0 : decode cX2_next 0 = .ok (.aload_n 0, 1) := by decide +kernel
theorem dX2_next_1 : decode cX2_next 1 = .ok (.getfield 7, 3) := by decide +kernel
theorem dX2_next_4 : decode cX2_next 4 = .ok (.ifCond .ne 14, 3) := by decide +kernel
theorem dX2_next_7 : decode cX2_next 7 = .ok (.aload_n 0, 1) := by decide +kernel
theorem dX2_next_8 : decode cX2_next 8 = .ok (.getfield 17, 3) := by decide +kernel
theorem dX2_next_11 : decode cX2_next 11 = .ok (.aload_n 0, 1) := by decide +kernel
theorem dX2_next_12 : decode cX2_next 12 = .ok (.getfield 21, 3) := by decide +kernel
theorem dX2_next_15 : decode cX2_next 15 = .ok (.if_icmp .lt 10, 3) := by decide +kernel
theorem dX2_next_18 : decode cX2_next 18 = .ok (.aload_n 0, 1) := by decide +kernel
theorem dX2_next_19 : decode cX2_next 19 = .ok (.iconst 1, 1) := by decide +kernel
theorem dX2_next_20 : decode cX2_next 20 = .ok (.putfield 7, 3) := by decide +kernel
theorem dX2_next_23 : decode cX2_next 23 = .ok (.iconst 0, 1) := by decide +kernel
theorem dX2_next_24 : decode cX2_next 24 = .ok (.ireturn, 1) := by decide +kernel
theorem dX2_next_25 : decode cX2_next 25 = .ok (.aload_n 0, 1) := by decide +kernel
theorem dX2_next_26 : decode cX2_next 26 = .ok (.getfield 13, 3) := by decide +kernel
theorem dX2_next_29 : decode cX2_next 29 = .ok (.aload_n 0, 1) := by decide +kernel
theorem dX2_next_30 : decode cX2_next 30 = .ok (.getfield 17, 3) := by decide +kernel
theorem dX2_next_33 : decode cX2_next 33 = .ok (.invokevirtual 24, 3) := by decide +kernel
theorem dX2_next_36 : decode cX2_next 36 = .ok (.istore_n 1, 1) := by decide +kernel
theorem dX2_next_37 : decode cX2_next 37 = .ok (.aload_n 0, 1) := by decide +kernel
theorem dX2_next_38 : decode cX2_next 38 = .ok (.dup, 1) := by decide +kernel
theorem dX2_next_39 : decode cX2_next 39 = .ok (.getfield 17, 3) := by decide +kernel
theorem dX2_next_42 : decode cX2_next 42 = .ok (.iconst 1, 1) := by decide +kernel
theorem dX2_next_43 : decode cX2_next 43 = .ok (.iadd, 1) := by decide +kernel
theorem dX2_next_44 : decode cX2_next 44 = .ok (.putfield 17, 3) := by decide +kernel
theorem dX2_next_47 : decode cX2_next 47 = .ok (.iload_n 1, 1) := by decide +kernel
theorem dX2_next_48 : decode cX2_next 48 = .ok (.ireturn, 1) := by decide +kernel
theorem dX2_nextShort_0 : decode cX2_nextShort 0 = .ok (.aload_n 0, 1) := by decide +kernel
theorem dX2_nextShort_1 : decode cX2_nextShort 1 = .ok (.invokevirtual 30, 3) := by decide +kernel
theorem dX2_nextShort_4 : decode cX2_nextShort 4 = .ok (.istore_n 1, 1) := by decide +kernel
theorem dX2_nextShort_5 : decode cX2_nextShort 5 = .ok (.iload_n 1, 1) := by decide +kernel
theorem dX2_nextShort_6 : decode cX2_nextShort 6 = .ok (.tableswitch 60 253 255 #[44, 35, 26], 26) := by decide +kernel
theorem dX2_nextShort_32 : decode cX2_nextShort 32 = .ok (.sipush 253, 3) := by decide +kernel
theorem dX2_nextShort_35 : decode cX2_nextShort 35 = .ok (.aload_n 0, 1) := by decide +kernel
theorem dX2_nextShort_36 : decode cX2_nextShort 36 = .ok (.invokevirtual 30, 3) := by decide +kernel
theorem dX2_nextShort_39 : decode cX2_nextShort 39 = .ok (.iadd, 1) := by decide +kernel
theorem dX2_nextShort_40 : decode cX2_nextShort 40 = .ok (.ireturn, 1) := by decide +kernel
theorem dX2_nextShort_41 : decode cX2_nextShort 41 = .ok (.sipush 506, 3) := by decide +kernel
theorem dX2_nextShort_44 : decode cX2_nextShort 44 = .ok (.aload_n 0, 1) := by decide +kernel
theorem dX2_nextShort_45 : decode cX2_nextShort 45 = .ok (.invokevirtual 30, 3) := by decide +kernel
theorem dX2_nextShort_48 : decode cX2_nextShort 48 = .ok (.iadd, 1) := by decide +kernel
theorem dX2_nextShort_49 : decode cX2_nextShort 49 = .ok (.ireturn, 1) := by decide +kernel
theorem dX2_nextShort_50 : decode cX2_nextShort 50 = .ok (.aload_n 0, 1) := by decide +kernel
theorem dX2_nextShort_51 : decode cX2_nextShort 51 = .ok (.invokevirtual 30, 3) := by decide +kernel
theorem dX2_nextShort_54 : decode cX2_nextShort 54 = .ok (.istore_n 2, 1) := by decide +kernel
theorem dX2_nextShort_55 : decode cX2_nextShort 55 = .ok (.iload_n 2, 1) := by decide +kernel
theorem dX2_nextShort_56 : decode cX2_nextShort 56 = .ok (.sipush 256, 3) := by decide +kernel
theorem dX2_nextShort_59 : decode cX2_nextShort 59 = .ok (.imul, 1) := by decide +kernel
theorem dX2_nextShort_60 : decode cX2_nextShort 60 = .ok (.aload_n 0, 1) := by decide +kernel
theorem dX2_nextShort_61 : decode cX2_nextShort 61 = .ok (.invokevirtual 30, 3) := by decide +kernel
theorem dX2_nextShort_64 : decode cX2_nextShort 64 = .ok (.iadd, 1) := by decide +kernel
theorem dX2_nextShort_65 : decode cX2_nextShort 65 = .ok (.ireturn, 1) := by decide +kernel
theorem dX2_nextShort_66 : decode cX2_nextShort 66 = .ok (.iload_n 1, 1) := by decide +kernel
theorem dX2_nextShort_67 : decode cX2_nextShort 67 = .ok (.ireturn, 1) := by decide +kernel
theorem dX2_nextLong_0 : decode cX2_nextLong 0 = .ok (.iconst 0, 1) := by decide +kernel
theorem dX2_nextLong_1 : decode cX2_nextLong 1 = .ok (.istore_n 1, 1) := by decide +kernel
theorem dX2_nextLong_2 : decode cX2_nextLong 2 = .ok (.iconst 0, 1) := by decide +kernel
theorem dX2_nextLong_3 : decode cX2_nextLong 3 = .ok (.istore_n 2, 1) := by decide +kernel
theorem dX2_nextLong_4 : decode cX2_nextLong 4 = .ok (.iload_n 2, 1) := by decide +kernel
theorem dX2_nextLong_5 : decode cX2_nextLong 5 = .ok (.iconst 3, 1) := by decide +kernel
theorem dX2_nextLong_6 : decode cX2_nextLong 6 = .ok (.if_icmp .ge 49, 3) := by decide +kernel
theorem dX2_nextLong_9 : decode cX2_nextLong 9 = .ok (.aload_n 0, 1) := by decide +kernel
theorem dX2_nextLong_10 : decode cX2_nextLong 10 = .ok (.invokevirtual 30, 3) := by decide +kernel
theorem dX2_nextLong_13 : decode cX2_nextLong 13 = .ok (.istore_n 3, 1) := by decide +kernel
theorem dX2_nextLong_14 : decode cX2_nextLong 14 = .ok (.iload_n 2, 1) := by decide +kernel
theorem dX2_nextLong_15 : decode cX2_nextLong 15 = .ok (.ifCond .ne 13, 3) := by decide +kernel
theorem dX2_nextLong_18 : decode cX2_nextLong 18 = .ok (.iload_n 3, 1) := by decide +kernel
theorem dX2_nextLong_19 : decode cX2_nextLong 19 = .ok (.sipush 128, 3) := by decide +kernel
theorem dX2_nextLong_22 : decode cX2_nextLong 22 = .ok (.if_icmp .ne 6, 3) := by decide +kernel
theorem dX2_nextLong_25 : decode cX2_nextLong 25 = .ok (.goto 30, 3) := by decide +kernel
theorem dX2_nextLong_28 : decode cX2_nextLong 28 = .ok (.iload_n 1, 1) := by decide +kernel
theorem dX2_nextLong_29 : decode cX2_nextLong 29 = .ok (.sipush 128, 3) := by decide +kernel
theorem dX2_nextLong_32 : decode cX2_nextLong 32 = .ok (.imul, 1) := by decide +kernel
theorem dX2_nextLong_33 : decode cX2_nextLong 33 = .ok (.iload_n 3, 1) := by decide +kernel
theorem dX2_nextLong_34 : decode cX2_nextLong 34 = .ok (.sipush 128, 3) := by decide +kernel
theorem dX2_nextLong_37 : decode cX2_nextLong 37 = .ok (.irem, 1) := by decide +kernel
theorem dX2_nextLong_38 : decode cX2_nextLong 38 = .ok (.iadd, 1) := by decide +kernel
theorem dX2_nextLong_39 : decode cX2_nextLong 39 = .ok (.istore_n 1, 1) := by decide +kernel
theorem dX2_nextLong_40 : decode cX2_nextLong 40 = .ok (.iload_n 3, 1) := by decide +kernel
theorem dX2_nextLong_41 : decode cX2_nextLong 41 = .ok (.sipush 128, 3) := by decide +kernel
theorem dX2_nextLong_44 : decode cX2_nextLong 44 = .ok (.if_icmp .ge 5, 3) := by decide +kernel
theorem dX2_nextLong_47 : decode cX2_nextLong 47 = .ok (.iload_n 1, 1) := by decide +kernel
theorem dX2_nextLong_48 : decode cX2_nextLong 48 = .ok (.ireturn, 1) := by decide +kernel
theorem dX2_nextLong_49 : decode cX2_nextLong 49 = .ok (.iinc 2 1, 3) := by decide +kernel
theorem dX2_nextLong_52 : decode cX2_nextLong 52 = .ok (.goto (-48), 3) := by decide +kernel
theorem dX2_nextLong_55 : decode cX2_nextLong 55 = .ok (.aload_n 0, 1) := by decide +kernel
theorem dX2_nextLong_56 : decode cX2_nextLong 56 = .ok (.iconst 1, 1) := by decide +kernel
theorem dX2_nextLong_57 : decode cX2_nextLong 57 = .ok (.putfield 7, 3) := by decide +kernel
theorem dX2_nextLong_60 : decode cX2_nextLong 60 = .ok (.iconst 0, 1) := by decide +kernel
theorem dX2_nextLong_61 : decode cX2_nextLong 61 = .ok (.ireturn, 1) := by decide +kernel
theorem dX3_init_0 : decode cX3_init 0 = .ok (.aload_n 0, 1) := by decide +kernel
theorem dX3_init_1 : decode cX3_init 1 = .ok (.invokespecial 3, 3) := by decide +kernel
theorem dX3_init_4 : decode cX3_init 4 = .ok (.aload_n 0, 1) := by decide +kernel
theorem dX3_init_5 : decode cX3_init 5 = .ok (.bipush 6, 2) := by decide +kernel
theorem dX3_init_7 : decode cX3_init 7 = .ok (.anewarray 9, 3) := by decide +kernel
theorem dX3_init_10 : decode cX3_init 10 = .ok (.putfield 11, 3) := by decide +kernel
theorem dX3_init_13 : decode cX3_init 13 = .ok (.aload_n 0, 1) := by decide +kernel
theorem dX3_init_14 : decode cX3_init 14 = .ok (.bipush 7, 2) := by decide +kernel
theorem dX3_init_16 : decode cX3_init 16 = .ok (.anewarray 17, 3) := by decide +kernel
theorem dX3_init_19 : decode cX3_init 19 = .ok (.putfield 19, 3) := by decide +kernel
theorem dX3_init_22 : decode cX3_init 22 = .ok (.aload_n 0, 1) := by decide +kernel
theorem dX3_init_23 : decode cX3_init 23 = .ok (.iconst 0, 1) := by decide +kernel
theorem dX3_init_24 : decode cX3_init 24 = .ok (.putfield 23, 3) := by decide +kernel
theorem dX3_init_27 : decode cX3_init 27 = .ok (.iconst 0, 1) := by decide +kernel
theorem dX3_init_28 : decode cX3_init 28 = .ok (.istore_n 1, 1) := by decide +kernel
theorem dX3_init_29 : decode cX3_init 29 = .ok (.iload_n 1, 1) := by decide +kernel
theorem dX3_init_30 : decode cX3_init 30 = .ok (.aload_n 0, 1) := by decide +kernel
theorem dX3_init_31 : decode cX3_init 31 = .ok (.getfield 11, 3) := by decide +kernel
theorem dX3_init_34 : decode cX3_init 34 = .ok (.arraylength, 1) := by decide +kernel
theorem dX3_init_35 : decode cX3_init 35 = .ok (.if_icmp .ge 22, 3) := by decide +kernel
theorem dX3_init_38 : decode cX3_init 38 = .ok (.aload_n 0, 1) := by decide +kernel
theorem dX3_init_39 : decode cX3_init 39 = .ok (.getfield 11, 3) := by decide +kernel
theorem dX3_init_42 : decode cX3_init 42 = .ok (.iload_n 1, 1) := by decide +kernel
theorem dX3_init_43 : decode cX3_init 43 = .ok (.new 9, 3) := by decide +kernel
theorem dX3_init_46 : decode cX3_init 46 = .ok (.dup, 1) := by decide +kernel
theorem dX3_init_47 : decode cX3_init 47 = .ok (.invokespecial 27, 3) := by decide +kernel
theorem dX3_init_50 : decode cX3_init 50 = .ok (.aastore, 1) := by decide +kernel
theorem dX3_init_51 : decode cX3_init 51 = .ok (.iinc 1 1, 3) := by decide +kernel
theorem dX3_init_54 : decode cX3_init 54 = .ok (.goto (-25), 3) := by decide +kernel
theorem dX3_init_57 : decode cX3_init 57 = .ok (.iconst 0, 1) := by decide +kernel
theorem dX3_init_58 : decode cX3_init 58 = .ok (.istore_n 1, 1) := by decide +kernel
theorem dX3_init_59 : decode cX3_init 59 = .ok (.iload_n 1, 1) := by decide +kernel
theorem dX3_init_60 : decode cX3_init 60 = .ok (.aload_n 0, 1) := by decide +kernel
theorem dX3_init_61 : decode cX3_init 61 = .ok (.getfield 19, 3) := by decide +kernel
theorem dX3_init_64 : decode cX3_init 64 = .ok (.arraylength, 1) := by decide +kernel
theorem dX3_init_65 : decode cX3_init 65 = .ok (.if_icmp .ge 26, 3) := by decide +kernel
theorem dX3_init_68 : decode cX3_init 68 = .ok (.aload_n 0, 1) := by decide +kernel
theorem dX3_init_69 : decode cX3_init 69 = .ok (.getfield 19, 3) := by decide +kernel
theorem dX3_init_72 : decode cX3_init 72 = .ok (.iload_n 1, 1) := by decide +kernel
theorem dX3_init_73 : decode cX3_init 73 = .ok (.new 17, 3) := by decide +kernel
theorem dX3_init_76 : decode cX3_init 76 = .ok (.dup, 1) := by decide +kernel
theorem dX3_init_77 : decode cX3_init 77 = .ok (.iload_n 1, 1) := by decide +kernel
theorem dX3_init_78 : decode cX3_init 78 = .ok (.invokestatic 28, 3) := by decide +kernel
theorem dX3_init_81 : decode cX3_init 81 = .ok (.invokespecial 32, 3) := by decide +kernel
theorem dX3_init_84 : decode cX3_init 84 = .ok (.aastore, 1) := by decide +kernel
theorem dX3_init_85 : decode cX3_init 85 = .ok (.iinc 1 1, 3) := by decide +kernel
theorem dX3_init_88 : decode cX3_init 88 = .ok (.goto (-29), 3) := by decide +kernel
theorem dX3_init_91 : decode cX3_init 91 = .ok (.return_, 1) := by decide +kernel
theorem dX3_rowSize_0 : decode cX3_rowSize 0 = .ok (.iload_n 0, 1) := by decide +kernel
theorem dX3_rowSize_1 : decode cX3_rowSize 1 = .ok (.lookupswitch 34 #[(0, 27), (1, 31)], 27) := by decide +kernel
theorem dX3_rowSize_28 : decode cX3_rowSize 28 = .ok (.sipush 516, 3) := by decide +kernel
theorem dX3_rowSize_31 : decode cX3_rowSize 31 = .ok (.ireturn, 1) := by decide +kernel
theorem dX3_rowSize_32 : decode cX3_rowSize 32 = .ok (.bipush 24, 2) := by decide +kernel
theorem dX3_rowSize_34 : decode cX3_rowSize 34 = .ok (.ireturn, 1) := by decide +kernel
theorem dX3_rowSize_35 : decode cX3_rowSize 35 = .ok (.bipush 20, 2) := by decide +kernel
theorem dX3_rowSize_37 : decode cX3_rowSize 37 = .ok (.ireturn, 1) := by decide +kernel
theorem dX3_makeEmpty_0 : decode cX3_makeEmpty 0 = .ok (.aload_n 0, 1) := by decide +kernel
theorem dX3_makeEmpty_1 : decode cX3_makeEmpty 1 = .ok (.iconst 0, 1) := by decide +kernel
theorem dX3_makeEmpty_2 : decode cX3_makeEmpty 2 = .ok (.putfield 23, 3) := by decide +kernel
theorem dX3_makeEmpty_5 : decode cX3_makeEmpty 5 = .ok (.iconst 0, 1) := by decide +kernel
theorem dX3_makeEmpty_6 : decode cX3_makeEmpty 6 = .ok (.istore_n 1, 1) := by decide +kernel
theorem dX3_makeEmpty_7 : decode cX3_makeEmpty 7 = .ok (.iload_n 1, 1) := by decide +kernel
theorem dX3_makeEmpty_8 : decode cX3_makeEmpty 8 = .ok (.aload_n 0, 1) := by decide +kernel
theorem dX3_makeEmpty_9 : decode cX3_makeEmpty 9 = .ok (.getfield 19, 3) := by decide +kernel
theorem dX3_makeEmpty_12 : decode cX3_makeEmpty 12 = .ok (.arraylength, 1) := by decide +kernel
theorem dX3_makeEmpty_13 : decode cX3_makeEmpty 13 = .ok (.if_icmp .ge 18, 3) := by decide +kernel
theorem dX3_makeEmpty_16 : decode cX3_makeEmpty 16 = .ok (.aload_n 0, 1) := by decide +kernel
theorem dX3_makeEmpty_17 : decode cX3_makeEmpty 17 = .ok (.getfield 19, 3) := by decide +kernel
theorem dX3_makeEmpty_20 : decode cX3_makeEmpty 20 = .ok (.iload_n 1, 1) := by decide +kernel
theorem dX3_makeEmpty_21 : decode cX3_makeEmpty 21 = .ok (.aaload, 1) := by decide +kernel
theorem dX3_makeEmpty_22 : decode cX3_makeEmpty 22 = .ok (.invokevirtual 35, 3) := by decide +kernel
theorem dX3_makeEmpty_25 : decode cX3_makeEmpty 25 = .ok (.iinc 1 1, 3) := by decide +kernel
theorem dX3_makeEmpty_28 : decode cX3_makeEmpty 28 = .ok (.goto (-21), 3) := by decide +kernel
theorem dX3_makeEmpty_31 : decode cX3_makeEmpty 31 = .ok (.return_, 1) := by decide +kernel
theorem dX3_glyphCount_0 : decode cX3_glyphCount 0 = .ok (.aload_n 0, 1) := by decide +kernel
theorem dX3_glyphCount_1 : decode cX3_glyphCount 1 = .ok (.getfield 23, 3) := by decide +kernel
theorem dX3_glyphCount_4 : decode cX3_glyphCount 4 = .ok (.ireturn, 1) := by decide +kernel
theorem dX3_glyphAt_0 : decode cX3_glyphAt 0 = .ok (.aload_n 0, 1) := by decide +kernel
theorem dX3_glyphAt_1 : decode cX3_glyphAt 1 = .ok (.getfield 11, 3) := by decide +kernel
theorem dX3_glyphAt_4 : decode cX3_glyphAt 4 = .ok (.iload_n 1, 1) := by decide +kernel
theorem dX3_glyphAt_5 : decode cX3_glyphAt 5 = .ok (.ifCond .lt 16, 3) := by decide +kernel
theorem dX3_glyphAt_8 : decode cX3_glyphAt 8 = .ok (.iload_n 1, 1) := by decide +kernel
theorem dX3_glyphAt_9 : decode cX3_glyphAt 9 = .ok (.aload_n 0, 1) := by decide +kernel
theorem dX3_glyphAt_10 : decode cX3_glyphAt 10 = .ok (.getfield 11, 3) := by decide +kernel
theorem dX3_glyphAt_13 : decode cX3_glyphAt 13 = .ok (.arraylength, 1) := by decide +kernel
theorem dX3_glyphAt_14 : decode cX3_glyphAt 14 = .ok (.if_icmp .ge 7, 3) := by decide +kernel
theorem dX3_glyphAt_17 : decode cX3_glyphAt 17 = .ok (.iload_n 1, 1) := by decide +kernel
theorem dX3_glyphAt_18 : decode cX3_glyphAt 18 = .ok (.goto 4, 3) := by decide +kernel
theorem dX3_glyphAt_21 : decode cX3_glyphAt 21 = .ok (.iconst 0, 1) := by decide +kernel
theorem dX3_glyphAt_22 : decode cX3_glyphAt 22 = .ok (.aaload, 1) := by decide +kernel
theorem dX3_glyphAt_23 : decode cX3_glyphAt 23 = .ok (.areturn, 1) := by decide +kernel
theorem dX3_latestGlyph_0 : decode cX3_latestGlyph 0 = .ok (.aload_n 0, 1) := by decide +kernel
theorem dX3_latestGlyph_1 : decode cX3_latestGlyph 1 = .ok (.aload_n 0, 1) := by decide +kernel
theorem dX3_latestGlyph_2 : decode cX3_latestGlyph 2 = .ok (.getfield 23, 3) := by decide +kernel
theorem dX3_latestGlyph_5 : decode cX3_latestGlyph 5 = .ok (.iconst 1, 1) := by decide +kernel
theorem dX3_latestGlyph_6 : decode cX3_latestGlyph 6 = .ok (.isub, 1) := by decide +kernel
theorem dX3_latestGlyph_7 : decode cX3_latestGlyph 7 = .ok (.invokevirtual 38, 3) := by decide +kernel
theorem dX3_latestGlyph_10 : decode cX3_latestGlyph 10 = .ok (.areturn, 1) := by decide +kernel
theorem dX3_addGlyph_0 : decode cX3_addGlyph 0 = .ok (.aload_n 0, 1) := by decide +kernel
theorem dX3_addGlyph_1 : decode cX3_addGlyph 1 = .ok (.getfield 23, 3) := by decide +kernel
theorem dX3_addGlyph_4 : decode cX3_addGlyph 4 = .ok (.aload_n 0, 1) := by decide +kernel
theorem dX3_addGlyph_5 : decode cX3_addGlyph 5 = .ok (.getfield 11, 3) := by decide +kernel
theorem dX3_addGlyph_8 : decode cX3_addGlyph 8 = .ok (.arraylength, 1) := by decide +kernel
theorem dX3_addGlyph_9 : decode cX3_addGlyph 9 = .ok (.if_icmp .ge 21, 3) := by decide +kernel
theorem dX3_addGlyph_12 : decode cX3_addGlyph 12 = .ok (.aload_n 0, 1) := by decide +kernel
theorem dX3_addGlyph_13 : decode cX3_addGlyph 13 = .ok (.dup, 1) := by decide +kernel
theorem dX3_addGlyph_14 : decode cX3_addGlyph 14 = .ok (.getfield 23, 3) := by decide +kernel
theorem dX3_addGlyph_17 : decode cX3_addGlyph 17 = .ok (.iconst 1, 1) := by decide +kernel
theorem dX3_addGlyph_18 : decode cX3_addGlyph 18 = .ok (.iadd, 1) := by decide +kernel
theorem dX3_addGlyph_19 : decode cX3_addGlyph 19 = .ok (.putfield 23, 3) := by decide +kernel
theorem dX3_addGlyph_22 : decode cX3_addGlyph 22 = .ok (.aload_n 0, 1) := by decide +kernel
theorem dX3_addGlyph_23 : decode cX3_addGlyph 23 = .ok (.invokevirtual 42, 3) := by decide +kernel
theorem dX3_addGlyph_26 : decode cX3_addGlyph 26 = .ok (.iload_n 1, 1) := by decide +kernel
theorem dX3_addGlyph_27 : decode cX3_addGlyph 27 = .ok (.invokevirtual 46, 3) := by decide +kernel
theorem dX3_addGlyph_30 : decode cX3_addGlyph 30 = .ok (.aload_n 0, 1) := by decide +kernel
theorem dX3_addGlyph_31 : decode cX3_addGlyph 31 = .ok (.getfield 23, 3) := by decide +kernel
theorem dX3_addGlyph_34 : decode cX3_addGlyph 34 = .ok (.iconst 1, 1) := by decide +kernel
theorem dX3_addGlyph_35 : decode cX3_addGlyph 35 = .ok (.isub, 1) := by decide +kernel
theorem dX3_addGlyph_36 : decode cX3_addGlyph 36 = .ok (.ireturn, 1) := by decide +kernel
theorem dX3_hasEmptyContour_0 : decode cX3_hasEmptyContour 0 = .ok (.aload_n 0, 1) := by decide +kernel
theorem dX3_hasEmptyContour_1 : decode cX3_hasEmptyContour 1 = .ok (.getfield 23, 3) := by decide +kernel
theorem dX3_hasEmptyContour_4 : decode cX3_hasEmptyContour 4 = .ok (.ifCond .le 17, 3) := by decide +kernel
theorem dX3_hasEmptyContour_7 : decode cX3_hasEmptyContour 7 = .ok (.aload_n 0, 1) := by decide +kernel
theorem dX3_hasEmptyContour_8 : decode cX3_hasEmptyContour 8 = .ok (.invokevirtual 42, 3) := by decide +kernel
theorem dX3_hasEmptyContour_11 : decode cX3_hasEmptyContour 11 = .ok (.invokevirtual 49, 3) := by decide +kernel
theorem dX3_hasEmptyContour_14 : decode cX3_hasEmptyContour 14 = .ok (.ifCond .eq 7, 3) := by decide +kernel
theorem dX3_hasEmptyContour_17 : decode cX3_hasEmptyContour 17 = .ok (.iconst 1, 1) := by decide +kernel
theorem dX3_hasEmptyContour_18 : decode cX3_hasEmptyContour 18 = .ok (.goto 4, 3) := by decide +kernel
theorem dX3_hasEmptyContour_21 : decode cX3_hasEmptyContour 21 = .ok (.iconst 0, 1) := by decide +kernel
theorem dX3_hasEmptyContour_22 : decode cX3_hasEmptyContour 22 = .ok (.ireturn, 1) := by decide +kernel
theorem dX3_tableRow_0 : decode cX3_tableRow 0 = .ok (.aload_n 0, 1) := by decide +kernel
theorem dX3_tableRow_1 : decode cX3_tableRow 1 = .ok (.getfield 19, 3) := by decide +kernel
theorem dX3_tableRow_4 : decode cX3_tableRow 4 = .ok (.iload_n 1, 1) := by decide +kernel
theorem dX3_tableRow_5 : decode cX3_tableRow 5 = .ok (.ifCond .lt 16, 3) := by decide +kernel
theorem dX3_tableRow_8 : decode cX3_tableRow 8 = .ok (.iload_n 1, 1) := by decide +kernel
theorem dX3_tableRow_9 : decode cX3_tableRow 9 = .ok (.aload_n 0, 1) := by decide +kernel
theorem dX3_tableRow_10 : decode cX3_tableRow 10 = .ok (.getfield 19, 3) := by decide +kernel
theorem dX3_tableRow_13 : decode cX3_tableRow 13 = .ok (.arraylength, 1) := by decide +kernel
theorem dX3_tableRow_14 : decode cX3_tableRow 14 = .ok (.if_icmp .ge 7, 3) := by decide +kernel
theorem dX3_tableRow_17 : decode cX3_tableRow 17 = .ok (.iload_n 1, 1) := by decide +kernel
theorem dX3_tableRow_18 : decode cX3_tableRow 18 = .ok (.goto 4, 3) := by decide +kernel
theorem dX3_tableRow_21 : decode cX3_tableRow 21 = .ok (.iconst 0, 1) := by decide +kernel
theorem dX3_tableRow_22 : decode cX3_tableRow 22 = .ok (.aaload, 1) := by decide +kernel
theorem dX3_tableRow_23 : decode cX3_tableRow 23 = .ok (.areturn, 1) := by decide +kernel
theorem dX3_hasTable_0 : decode cX3_hasTable 0 = .ok (.iload_n 1, 1) := by decide +kernel
theorem dX3_hasTable_1 : decode cX3_hasTable 1 = .ok (.iconst 2, 1) := by decide +kernel
theorem dX3_hasTable_2 : decode cX3_hasTable 2 = .ok (.if_icmp .ge 18, 3) := by decide +kernel
theorem dX3_hasTable_5 : decode cX3_hasTable 5 = .ok (.aload_n 0, 1) := by decide +kernel
theorem dX3_hasTable_6 : decode cX3_hasTable 6 = .ok (.getfield 23, 3) := by decide +kernel
theorem dX3_hasTable_9 : decode cX3_hasTable 9 = .ok (.ifCond .le 7, 3) := by decide +kernel
theorem dX3_hasTable_12 : decode cX3_hasTable 12 = .ok (.iconst 1, 1) := by decide +kernel
theorem dX3_hasTable_13 : decode cX3_hasTable 13 = .ok (.goto 23, 3) := by decide +kernel
theorem dX3_hasTable_16 : decode cX3_hasTable 16 = .ok (.iconst 0, 1) := by decide +kernel
theorem dX3_hasTable_17 : decode cX3_hasTable 17 = .ok (.goto 19, 3) := by decide +kernel
theorem dX3_hasTable_20 : decode cX3_hasTable 20 = .ok (.aload_n 0, 1) := by decide +kernel
theorem dX3_hasTable_21 : decode cX3_hasTable 21 = .ok (.iload_n 1, 1) := by decide +kernel
theorem dX3_hasTable_22 : decode cX3_hasTable 22 = .ok (.invokevirtual 53, 3) := by decide +kernel
theorem dX3_hasTable_25 : decode cX3_hasTable 25 = .ok (.invokevirtual 57, 3) := by decide +kernel
theorem dX3_hasTable_28 : decode cX3_hasTable 28 = .ok (.ifCond .le 7, 3) := by decide +kernel
theorem dX3_hasTable_31 : decode cX3_hasTable 31 = .ok (.iconst 1, 1) := by decide +kernel
theorem dX3_hasTable_32 : decode cX3_hasTable 32 = .ok (.goto 4, 3) := by decide +kernel
theorem dX3_hasTable_35 : decode cX3_hasTable 35 = .ok (.iconst 0, 1) := by decide +kernel
theorem dX3_hasTable_36 : decode cX3_hasTable 36 = .ok (.ireturn, 1) := by decide +kernel
theorem dX3_tableCount_0 : decode cX3_tableCount 0 = .ok (.iconst 0, 1) := by decide +kernel
theorem dX3_tableCount_1 : decode cX3_tableCount 1 = .ok (.istore_n 1, 1) := by decide +kernel
theorem dX3_tableCount_2 : decode cX3_tableCount 2 = .ok (.iconst 0, 1) := by decide +kernel
theorem dX3_tableCount_3 : decode cX3_tableCount 3 = .ok (.istore_n 2, 1) := by decide +kernel
theorem dX3_tableCount_4 : decode cX3_tableCount 4 = .ok (.iload_n 2, 1) := by decide +kernel
theorem dX3_tableCount_5 : decode cX3_tableCount 5 = .ok (.bipush 7, 2) := by decide +kernel
theorem dX3_tableCount_7 : decode cX3_tableCount 7 = .ok (.if_icmp .ge 25, 3) := by decide +kernel
theorem dX3_tableCount_10 : decode cX3_tableCount 10 = .ok (.iload_n 1, 1) := by decide +kernel
theorem dX3_tableCount_11 : decode cX3_tableCount 11 = .ok (.aload_n 0, 1) := by decide +kernel
theorem dX3_tableCount_12 : decode cX3_tableCount 12 = .ok (.iload_n 2, 1) := by decide +kernel
theorem dX3_tableCount_13 : decode cX3_tableCount 13 = .ok (.invokevirtual 61, 3) := by decide +kernel
theorem dX3_tableCount_16 : decode cX3_tableCount 16 = .ok (.ifCond .eq 7, 3) := by decide +kernel
theorem dX3_tableCount_19 : decode cX3_tableCount 19 = .ok (.iconst 1, 1) := by decide +kernel
theorem dX3_tableCount_20 : decode cX3_tableCount 20 = .ok (.goto 4, 3) := by decide +kernel
theorem dX3_tableCount_23 : decode cX3_tableCount 23 = .ok (.iconst 0, 1) := by decide +kernel
theorem dX3_tableCount_24 : decode cX3_tableCount 24 = .ok (.iadd, 1) := by decide +kernel
theorem dX3_tableCount_25 : decode cX3_tableCount 25 = .ok (.istore_n 1, 1) := by decide +kernel
theorem dX3_tableCount_26 : decode cX3_tableCount 26 = .ok (.iinc 2 1, 3) := by decide +kernel
theorem dX3_tableCount_29 : decode cX3_tableCount 29 = .ok (.goto (-25), 3) := by decide +kernel
theorem dX3_tableCount_32 : decode cX3_tableCount 32 = .ok (.iload_n 1, 1) := by decide +kernel
theorem dX3_tableCount_33 : decode cX3_tableCount 33 = .ok (.ireturn, 1) := by decide +kernel
theorem dX4_init_0 : decode cX4_init 0 = .ok (.aload_n 0, 1) := by decide +kernel
theorem dX4_init_1 : decode cX4_init 1 = .ok (.invokespecial 3, 3) := by decide +kernel
theorem dX4_init_4 : decode cX4_init 4 = .ok (.aload_n 0, 1) := by decide +kernel
theorem dX4_init_5 : decode cX4_init 5 = .ok (.new 9, 3) := by decide +kernel
theorem dX4_init_8 : decode cX4_init 8 = .ok (.dup, 1) := by decide +kernel
theorem dX4_init_9 : decode cX4_init 9 = .ok (.iconst 4, 1) := by decide +kernel
theorem dX4_init_10 : decode cX4_init 10 = .ok (.invokespecial 11, 3) := by decide +kernel
theorem dX4_init_13 : decode cX4_init 13 = .ok (.putfield 14, 3) := by decide +kernel
theorem dX4_init_16 : decode cX4_init 16 = .ok (.aload_n 0, 1) := by decide +kernel
theorem dX4_init_17 : decode cX4_init 17 = .ok (.new 9, 3) := by decide +kernel
theorem dX4_init_20 : decode cX4_init 20 = .ok (.dup, 1) := by decide +kernel
theorem dX4_init_21 : decode cX4_init 21 = .ok (.bipush 16, 2) := by decide +kernel
theorem dX4_init_23 : decode cX4_init 23 = .ok (.invokespecial 11, 3) := by decide +kernel
theorem dX4_init_26 : decode cX4_init 26 = .ok (.putfield 20, 3) := by decide +kernel
theorem dX4_init_29 : decode cX4_init 29 = .ok (.aload_n 0, 1) := by decide +kernel
theorem dX4_init_30 : decode cX4_init 30 = .ok (.new 9, 3) := by decide +kernel
theorem dX4_init_33 : decode cX4_init 33 = .ok (.dup, 1) := by decide +kernel
theorem dX4_init_34 : decode cX4_init 34 = .ok (.bipush 16, 2) := by decide +kernel
theorem dX4_init_36 : decode cX4_init 36 = .ok (.invokespecial 11, 3) := by decide +kernel
theorem dX4_init_39 : decode cX4_init 39 = .ok (.putfield 23, 3) := by decide +kernel
theorem dX4_init_42 : decode cX4_init 42 = .ok (.aload_n 0, 1) := by decide +kernel
theorem dX4_init_43 : decode cX4_init 43 = .ok (.new 9, 3) := by decide +kernel
theorem dX4_init_46 : decode cX4_init 46 = .ok (.dup, 1) := by decide +kernel
theorem dX4_init_47 : decode cX4_init 47 = .ok (.bipush 16, 2) := by decide +kernel
theorem dX4_init_49 : decode cX4_init 49 = .ok (.invokespecial 11, 3) := by decide +kernel
theorem dX4_init_52 : decode cX4_init 52 = .ok (.putfield 26, 3) := by decide +kernel
theorem dX4_init_55 : decode cX4_init 55 = .ok (.aload_n 0, 1) := by decide +kernel
theorem dX4_init_56 : decode cX4_init 56 = .ok (.iconst 0, 1) := by decide +kernel
theorem dX4_init_57 : decode cX4_init 57 = .ok (.putfield 29, 3) := by decide +kernel
theorem dX4_init_60 : decode cX4_init 60 = .ok (.return_, 1) := by decide +kernel
theorem dX4_begin_0 : decode cX4_begin 0 = .ok (.aload_n 0, 1) := by decide +kernel
theorem dX4_begin_1 : decode cX4_begin 1 = .ok (.iload_n 1, 1) := by decide +kernel
theorem dX4_begin_2 : decode cX4_begin 2 = .ok (.putfield 29, 3) := by decide +kernel
theorem dX4_begin_5 : decode cX4_begin 5 = .ok (.aload_n 0, 1) := by decide +kernel
theorem dX4_begin_6 : decode cX4_begin 6 = .ok (.getfield 14, 3) := by decide +kernel
theorem dX4_begin_9 : decode cX4_begin 9 = .ok (.invokevirtual 33, 3) := by decide +kernel
theorem dX4_begin_12 : decode cX4_begin 12 = .ok (.aload_n 0, 1) := by decide +kernel
theorem dX4_begin_13 : decode cX4_begin 13 = .ok (.getfield 20, 3) := by decide +kernel
theorem dX4_begin_16 : decode cX4_begin 16 = .ok (.invokevirtual 33, 3) := by decide +kernel
theorem dX4_begin_19 : decode cX4_begin 19 = .ok (.aload_n 0, 1) := by decide +kernel
theorem dX4_begin_20 : decode cX4_begin 20 = .ok (.getfield 23, 3) := by decide +kernel
theorem dX4_begin_23 : decode cX4_begin 23 = .ok (.invokevirtual 33, 3) := by decide +kernel
theorem dX4_begin_26 : decode cX4_begin 26 = .ok (.aload_n 0, 1) := by decide +kernel
theorem dX4_begin_27 : decode cX4_begin 27 = .ok (.getfield 26, 3) := by decide +kernel
theorem dX4_begin_30 : decode cX4_begin 30 = .ok (.invokevirtual 33, 3) := by decide +kernel
theorem dX4_begin_33 : decode cX4_begin 33 = .ok (.return_, 1) := by decide +kernel
theorem dX4_advance_0 : decode cX4_advance 0 = .ok (.aload_n 0, 1) := by decide +kernel
theorem dX4_advance_1 : decode cX4_advance 1 = .ok (.getfield 29, 3) := by decide +kernel
theorem dX4_advance_4 : decode cX4_advance 4 = .ok (.ireturn, 1) := by decide +kernel
theorem dX4_changeAdvance_0 : decode cX4_changeAdvance 0 = .ok (.aload_n 0, 1) := by decide +kernel
theorem dX4_changeAdvance_1 : decode cX4_changeAdvance 1 = .ok (.iload_n 1, 1) := by decide +kernel
theorem dX4_changeAdvance_2 : decode cX4_changeAdvance 2 = .ok (.putfield 29, 3) := by decide +kernel
theorem dX4_changeAdvance_5 : decode cX4_changeAdvance 5 = .ok (.return_, 1) := by decide +kernel
theorem dX4_contourCount_0 : decode cX4_contourCount 0 = .ok (.aload_n 0, 1) := by decide +kernel
theorem dX4_contourCount_1 : decode cX4_contourCount 1 = .ok (.getfield 14, 3) := by decide +kernel
theorem dX4_contourCount_4 : decode cX4_contourCount 4 = .ok (.invokevirtual 36, 3) := by decide +kernel
theorem dX4_contourCount_7 : decode cX4_contourCount 7 = .ok (.ireturn, 1) := by decide +kernel
theorem dX4_contourSize_0 : decode cX4_contourSize 0 = .ok (.aload_n 0, 1) := by decide +kernel
theorem dX4_contourSize_1 : decode cX4_contourSize 1 = .ok (.getfield 14, 3) := by decide +kernel
theorem dX4_contourSize_4 : decode cX4_contourSize 4 = .ok (.iload_n 1, 1) := by decide +kernel
theorem dX4_contourSize_5 : decode cX4_contourSize 5 = .ok (.invokevirtual 40, 3) := by decide +kernel
theorem dX4_contourSize_8 : decode cX4_contourSize 8 = .ok (.ireturn, 1) := by decide +kernel
theorem dX4_pointCount_0 : decode cX4_pointCount 0 = .ok (.aload_n 0, 1) := by decide +kernel
theorem dX4_pointCount_1 : decode cX4_pointCount 1 = .ok (.getfield 20, 3) := by decide +kernel
theorem dX4_pointCount_4 : decode cX4_pointCount 4 = .ok (.invokevirtual 36, 3) := by decide +kernel
theorem dX4_pointCount_7 : decode cX4_pointCount 7 = .ok (.ireturn, 1) := by decide +kernel
theorem dX4_hasEmptyContour_0 : decode cX4_hasEmptyContour 0 = .ok (.aload_n 0, 1) := by decide +kernel
theorem dX4_hasEmptyContour_1 : decode cX4_hasEmptyContour 1 = .ok (.getfield 14, 3) := by decide +kernel
theorem dX4_hasEmptyContour_4 : decode cX4_hasEmptyContour 4 = .ok (.invokevirtual 36, 3) := by decide +kernel
theorem dX4_hasEmptyContour_7 : decode cX4_hasEmptyContour 7 = .ok (.ifCond .le 17, 3) := by decide +kernel
theorem dX4_hasEmptyContour_10 : decode cX4_hasEmptyContour 10 = .ok (.aload_n 0, 1) := by decide +kernel
theorem dX4_hasEmptyContour_11 : decode cX4_hasEmptyContour 11 = .ok (.getfield 14, 3) := by decide +kernel
theorem dX4_hasEmptyContour_14 : decode cX4_hasEmptyContour 14 = .ok (.invokevirtual 44, 3) := by decide +kernel
theorem dX4_hasEmptyContour_17 : decode cX4_hasEmptyContour 17 = .ok (.ifCond .ne 7, 3) := by decide +kernel
theorem dX4_hasEmptyContour_20 : decode cX4_hasEmptyContour 20 = .ok (.iconst 1, 1) := by decide +kernel
theorem dX4_hasEmptyContour_21 : decode cX4_hasEmptyContour 21 = .ok (.goto 4, 3) := by decide +kernel
theorem dX4_hasEmptyContour_24 : decode cX4_hasEmptyContour 24 = .ok (.iconst 0, 1) := by decide +kernel
theorem dX4_hasEmptyContour_25 : decode cX4_hasEmptyContour 25 = .ok (.ireturn, 1) := by decide +kernel
theorem dX4_addContour_0 : decode cX4_addContour 0 = .ok (.aload_n 0, 1) := by decide +kernel
theorem dX4_addContour_1 : decode cX4_addContour 1 = .ok (.getfield 14, 3) := by decide +kernel
theorem dX4_addContour_4 : decode cX4_addContour 4 = .ok (.iconst 0, 1) := by decide +kernel
theorem dX4_addContour_5 : decode cX4_addContour 5 = .ok (.invokevirtual 47, 3) := by decide +kernel
theorem dX4_addContour_8 : decode cX4_addContour 8 = .ok (.aload_n 0, 1) := by decide +kernel
theorem dX4_addContour_9 : decode cX4_addContour 9 = .ok (.getfield 14, 3) := by decide +kernel
theorem dX4_addContour_12 : decode cX4_addContour 12 = .ok (.invokevirtual 36, 3) := by decide +kernel
theorem dX4_addContour_15 : decode cX4_addContour 15 = .ok (.iconst 1, 1) := by decide +kernel
theorem dX4_addContour_16 : decode cX4_addContour 16 = .ok (.isub, 1) := by decide +kernel
theorem dX4_addContour_17 : decode cX4_addContour 17 = .ok (.ireturn, 1) := by decide +kernel
theorem dX4_growLatestContour_0 : decode cX4_growLatestContour 0 = .ok (.aload_n 0, 1) := by decide +kernel
theorem dX4_growLatestContour_1 : decode cX4_growLatestContour 1 = .ok (.getfield 14, 3) := by decide +kernel
theorem dX4_growLatestContour_4 : decode cX4_growLatestContour 4 = .ok (.aload_n 0, 1) := by decide +kernel
theorem dX4_growLatestContour_5 : decode cX4_growLatestContour 5 = .ok (.getfield 14, 3) := by decide +kernel
theorem dX4_growLatestContour_8 : decode cX4_growLatestContour 8 = .ok (.invokevirtual 36, 3) := by decide +kernel
theorem dX4_growLatestContour_11 : decode cX4_growLatestContour 11 = .ok (.iconst 1, 1) := by decide +kernel
theorem dX4_growLatestContour_12 : decode cX4_growLatestContour 12 = .ok (.isub, 1) := by decide +kernel
theorem dX4_growLatestContour_13 : decode cX4_growLatestContour 13 = .ok (.aload_n 0, 1) := by decide +kernel
theorem dX4_growLatestContour_14 : decode cX4_growLatestContour 14 = .ok (.getfield 14, 3) := by decide +kernel
theorem dX4_growLatestContour_17 : decode cX4_growLatestContour 17 = .ok (.invokevirtual 44, 3) := by decide +kernel
theorem dX4_growLatestContour_20 : decode cX4_growLatestContour 20 = .ok (.iconst 1, 1) := by decide +kernel
theorem dX4_growLatestContour_21 : decode cX4_growLatestContour 21 = .ok (.iadd, 1) := by decide +kernel
theorem dX4_growLatestContour_22 : decode cX4_growLatestContour 22 = .ok (.invokevirtual 50, 3) := by decide +kernel
theorem dX4_growLatestContour_25 : decode cX4_growLatestContour 25 = .ok (.return_, 1) := by decide +kernel
theorem dX4_changeContourSize_0 : decode cX4_changeContourSize 0 = .ok (.aload_n 0, 1) := by decide +kernel
theorem dX4_changeContourSize_1 : decode cX4_changeContourSize 1 = .ok (.getfield 14, 3) := by decide +kernel
theorem dX4_changeContourSize_4 : decode cX4_changeContourSize 4 = .ok (.iload_n 1, 1) := by decide +kernel
theorem dX4_changeContourSize_5 : decode cX4_changeContourSize 5 = .ok (.iload_n 2, 1) := by decide +kernel
theorem dX4_changeContourSize_6 : decode cX4_changeContourSize 6 = .ok (.invokevirtual 50, 3) := by decide +kernel
theorem dX4_changeContourSize_9 : decode cX4_changeContourSize 9 = .ok (.return_, 1) := by decide +kernel
theorem dX4_addPoint_0 : decode cX4_addPoint 0 = .ok (.aload_n 0, 1) := by decide +kernel
theorem dX4_addPoint_1 : decode cX4_addPoint 1 = .ok (.getfield 20, 3) := by decide +kernel
theorem dX4_addPoint_4 : decode cX4_addPoint 4 = .ok (.iload_n 1, 1) := by decide +kernel
theorem dX4_addPoint_5 : decode cX4_addPoint 5 = .ok (.invokevirtual 47, 3) := by decide +kernel
theorem dX4_addPoint_8 : decode cX4_addPoint 8 = .ok (.aload_n 0, 1) := by decide +kernel
theorem dX4_addPoint_9 : decode cX4_addPoint 9 = .ok (.getfield 23, 3) := by decide +kernel
theorem dX4_addPoint_12 : decode cX4_addPoint 12 = .ok (.iload_n 2, 1) := by decide +kernel
theorem dX4_addPoint_13 : decode cX4_addPoint 13 = .ok (.invokevirtual 47, 3) := by decide +kernel
theorem dX4_addPoint_16 : decode cX4_addPoint 16 = .ok (.aload_n 0, 1) := by decide +kernel
theorem dX4_addPoint_17 : decode cX4_addPoint 17 = .ok (.getfield 26, 3) := by decide +kernel
theorem dX4_addPoint_20 : decode cX4_addPoint 20 = .ok (.iload_n 3, 1) := by decide +kernel
theorem dX4_addPoint_21 : decode cX4_addPoint 21 = .ok (.ifCond .eq 7, 3) := by decide +kernel
theorem dX4_addPoint_24 : decode cX4_addPoint 24 = .ok (.iconst 1, 1) := by decide +kernel
theorem dX4_addPoint_25 : decode cX4_addPoint 25 = .ok (.goto 4, 3) := by decide +kernel
theorem dX4_addPoint_28 : decode cX4_addPoint 28 = .ok (.iconst 0, 1) := by decide +kernel
theorem dX4_addPoint_29 : decode cX4_addPoint 29 = .ok (.invokevirtual 47, 3) := by decide +kernel
theorem dX4_addPoint_32 : decode cX4_addPoint 32 = .ok (.aload_n 0, 1) := by decide +kernel
theorem dX4_addPoint_33 : decode cX4_addPoint 33 = .ok (.getfield 20, 3) := by decide +kernel
theorem dX4_addPoint_36 : decode cX4_addPoint 36 = .ok (.invokevirtual 36, 3) := by decide +kernel
theorem dX4_addPoint_39 : decode cX4_addPoint 39 = .ok (.iconst 1, 1) := by decide +kernel
theorem dX4_addPoint_40 : decode cX4_addPoint 40 = .ok (.isub, 1) := by decide +kernel
theorem dX4_addPoint_41 : decode cX4_addPoint 41 = .ok (.ireturn, 1) := by decide +kernel
theorem dX4_x_0 : decode cX4_x 0 = .ok (.aload_n 0, 1) := by decide +kernel
theorem dX4_x_1 : decode cX4_x 1 = .ok (.getfield 20, 3) := by decide +kernel
theorem dX4_x_4 : decode cX4_x 4 = .ok (.iload_n 1, 1) := by decide +kernel
theorem dX4_x_5 : decode cX4_x 5 = .ok (.invokevirtual 40, 3) := by decide +kernel
theorem dX4_x_8 : decode cX4_x 8 = .ok (.ireturn, 1) := by decide +kernel
theorem dX4_y_0 : decode cX4_y 0 = .ok (.aload_n 0, 1) := by decide +kernel
theorem dX4_y_1 : decode cX4_y 1 = .ok (.getfield 23, 3) := by decide +kernel
theorem dX4_y_4 : decode cX4_y 4 = .ok (.iload_n 1, 1) := by decide +kernel
theorem dX4_y_5 : decode cX4_y 5 = .ok (.invokevirtual 40, 3) := by decide +kernel
theorem dX4_y_8 : decode cX4_y 8 = .ok (.ireturn, 1) := by decide +kernel
theorem dX4_isOn_0 : decode cX4_isOn 0 = .ok (.aload_n 0, 1) := by decide +kernel
theorem dX4_isOn_1 : decode cX4_isOn 1 = .ok (.getfield 26, 3) := by decide +kernel
theorem dX4_isOn_4 : decode cX4_isOn 4 = .ok (.iload_n 1, 1) := by decide +kernel
theorem dX4_isOn_5 : decode cX4_isOn 5 = .ok (.invokevirtual 40, 3) := by decide +kernel
theorem dX4_isOn_8 : decode cX4_isOn 8 = .ok (.iconst 1, 1) := by decide +kernel
theorem dX4_isOn_9 : decode cX4_isOn 9 = .ok (.if_icmp .ne 7, 3) := by decide +kernel
theorem dX4_isOn_12 : decode cX4_isOn 12 = .ok (.iconst 1, 1) := by decide +kernel
theorem dX4_isOn_13 : decode cX4_isOn 13 = .ok (.goto 4, 3) := by decide +kernel
theorem dX4_isOn_16 : decode cX4_isOn 16 = .ok (.iconst 0, 1) := by decide +kernel
theorem dX4_isOn_17 : decode cX4_isOn 17 = .ok (.ireturn, 1) := by decide +kernel
theorem dX4_dx_0 : decode cX4_dx 0 = .ok (.aload_n 0, 1) := by decide +kernel
theorem dX4_dx_1 : decode cX4_dx 1 = .ok (.getfield 20, 3) := by decide +kernel
theorem dX4_dx_4 : decode cX4_dx 4 = .ok (.iload_n 1, 1) := by decide +kernel
theorem dX4_dx_5 : decode cX4_dx 5 = .ok (.invokevirtual 40, 3) := by decide +kernel
theorem dX4_dx_8 : decode cX4_dx 8 = .ok (.aload_n 0, 1) := by decide +kernel
theorem dX4_dx_9 : decode cX4_dx 9 = .ok (.getfield 20, 3) := by decide +kernel
theorem dX4_dx_12 : decode cX4_dx 12 = .ok (.iload_n 1, 1) := by decide +kernel
theorem dX4_dx_13 : decode cX4_dx 13 = .ok (.iconst 1, 1) := by decide +kernel
theorem dX4_dx_14 : decode cX4_dx 14 = .ok (.isub, 1) := by decide +kernel
theorem dX4_dx_15 : decode cX4_dx 15 = .ok (.invokevirtual 40, 3) := by decide +kernel
theorem dX4_dx_18 : decode cX4_dx 18 = .ok (.isub, 1) := by decide +kernel
theorem dX4_dx_19 : decode cX4_dx 19 = .ok (.ireturn, 1) := by decide +kernel
theorem dX4_dy_0 : decode cX4_dy 0 = .ok (.aload_n 0, 1) := by decide +kernel
theorem dX4_dy_1 : decode cX4_dy 1 = .ok (.getfield 23, 3) := by decide +kernel
theorem dX4_dy_4 : decode cX4_dy 4 = .ok (.iload_n 1, 1) := by decide +kernel
theorem dX4_dy_5 : decode cX4_dy 5 = .ok (.invokevirtual 40, 3) := by decide +kernel
theorem dX4_dy_8 : decode cX4_dy 8 = .ok (.aload_n 0, 1) := by decide +kernel
theorem dX4_dy_9 : decode cX4_dy 9 = .ok (.getfield 23, 3) := by decide +kernel
theorem dX4_dy_12 : decode cX4_dy 12 = .ok (.iload_n 1, 1) := by decide +kernel
theorem dX4_dy_13 : decode cX4_dy 13 = .ok (.iconst 1, 1) := by decide +kernel
theorem dX4_dy_14 : decode cX4_dy 14 = .ok (.isub, 1) := by decide +kernel
theorem dX4_dy_15 : decode cX4_dy 15 = .ok (.invokevirtual 40, 3) := by decide +kernel
theorem dX4_dy_18 : decode cX4_dy 18 = .ok (.isub, 1) := by decide +kernel
theorem dX4_dy_19 : decode cX4_dy 19 = .ok (.ireturn, 1) := by decide +kernel
theorem dX4_contourOf_0 : decode cX4_contourOf 0 = .ok (.iconst 0, 1) := by decide +kernel
theorem dX4_contourOf_1 : decode cX4_contourOf 1 = .ok (.istore_n 2, 1) := by decide +kernel
theorem dX4_contourOf_2 : decode cX4_contourOf 2 = .ok (.iconst 0, 1) := by decide +kernel
theorem dX4_contourOf_3 : decode cX4_contourOf 3 = .ok (.istore_n 3, 1) := by decide +kernel
theorem dX4_contourOf_4 : decode cX4_contourOf 4 = .ok (.iload_n 3, 1) := by decide +kernel
theorem dX4_contourOf_5 : decode cX4_contourOf 5 = .ok (.aload_n 0, 1) := by decide +kernel
theorem dX4_contourOf_6 : decode cX4_contourOf 6 = .ok (.getfield 14, 3) := by decide +kernel
theorem dX4_contourOf_9 : decode cX4_contourOf 9 = .ok (.invokevirtual 36, 3) := by decide +kernel
theorem dX4_contourOf_12 : decode cX4_contourOf 12 = .ok (.if_icmp .ge 27, 3) := by decide +kernel
theorem dX4_contourOf_15 : decode cX4_contourOf 15 = .ok (.iload_n 2, 1) := by decide +kernel
theorem dX4_contourOf_16 : decode cX4_contourOf 16 = .ok (.aload_n 0, 1) := by decide +kernel
theorem dX4_contourOf_17 : decode cX4_contourOf 17 = .ok (.getfield 14, 3) := by decide +kernel
theorem dX4_contourOf_20 : decode cX4_contourOf 20 = .ok (.iload_n 3, 1) := by decide +kernel
theorem dX4_contourOf_21 : decode cX4_contourOf 21 = .ok (.invokevirtual 40, 3) := by decide +kernel
theorem dX4_contourOf_24 : decode cX4_contourOf 24 = .ok (.iadd, 1) := by decide +kernel
theorem dX4_contourOf_25 : decode cX4_contourOf 25 = .ok (.istore_n 2, 1) := by decide +kernel
theorem dX4_contourOf_26 : decode cX4_contourOf 26 = .ok (.iload_n 1, 1) := by decide +kernel
theorem dX4_contourOf_27 : decode cX4_contourOf 27 = .ok (.iload_n 2, 1) := by decide +kernel
theorem dX4_contourOf_28 : decode cX4_contourOf 28 = .ok (.if_icmp .ge 5, 3) := by decide +kernel
theorem dX4_contourOf_31 : decode cX4_contourOf 31 = .ok (.iload_n 3, 1) := by decide +kernel
theorem dX4_contourOf_32 : decode cX4_contourOf 32 = .ok (.ireturn, 1) := by decide +kernel
theorem dX4_contourOf_33 : decode cX4_contourOf 33 = .ok (.iinc 3 1, 3) := by decide +kernel
theorem dX4_contourOf_36 : decode cX4_contourOf 36 = .ok (.goto (-32), 3) := by decide +kernel
theorem dX4_contourOf_39 : decode cX4_contourOf 39 = .ok (.iconst 0, 1) := by decide +kernel
theorem dX4_contourOf_40 : decode cX4_contourOf 40 = .ok (.ireturn, 1) := by decide +kernel
theorem dX4_sizesTogether_0 : decode cX4_sizesTogether 0 = .ok (.iconst 0, 1) := by decide +kernel
theorem dX4_sizesTogether_1 : decode cX4_sizesTogether 1 = .ok (.istore_n 1, 1) := by decide +kernel
theorem dX4_sizesTogether_2 : decode cX4_sizesTogether 2 = .ok (.iconst 0, 1) := by decide +kernel
theorem dX4_sizesTogether_3 : decode cX4_sizesTogether 3 = .ok (.istore_n 2, 1) := by decide +kernel
theorem dX4_sizesTogether_4 : decode cX4_sizesTogether 4 = .ok (.iload_n 2, 1) := by decide +kernel
theorem dX4_sizesTogether_5 : decode cX4_sizesTogether 5 = .ok (.aload_n 0, 1) := by decide +kernel
theorem dX4_sizesTogether_6 : decode cX4_sizesTogether 6 = .ok (.getfield 14, 3) := by decide +kernel
theorem dX4_sizesTogether_9 : decode cX4_sizesTogether 9 = .ok (.invokevirtual 36, 3) := by decide +kernel
theorem dX4_sizesTogether_12 : decode cX4_sizesTogether 12 = .ok (.if_icmp .ge 20, 3) := by decide +kernel
theorem dX4_sizesTogether_15 : decode cX4_sizesTogether 15 = .ok (.iload_n 1, 1) := by decide +kernel
theorem dX4_sizesTogether_16 : decode cX4_sizesTogether 16 = .ok (.aload_n 0, 1) := by decide +kernel
theorem dX4_sizesTogether_17 : decode cX4_sizesTogether 17 = .ok (.getfield 14, 3) := by decide +kernel
theorem dX4_sizesTogether_20 : decode cX4_sizesTogether 20 = .ok (.iload_n 2, 1) := by decide +kernel
theorem dX4_sizesTogether_21 : decode cX4_sizesTogether 21 = .ok (.invokevirtual 40, 3) := by decide +kernel
theorem dX4_sizesTogether_24 : decode cX4_sizesTogether 24 = .ok (.iadd, 1) := by decide +kernel
theorem dX4_sizesTogether_25 : decode cX4_sizesTogether 25 = .ok (.istore_n 1, 1) := by decide +kernel
theorem dX4_sizesTogether_26 : decode cX4_sizesTogether 26 = .ok (.iinc 2 1, 3) := by decide +kernel
theorem dX4_sizesTogether_29 : decode cX4_sizesTogether 29 = .ok (.goto (-25), 3) := by decide +kernel
theorem dX4_sizesTogether_32 : decode cX4_sizesTogether 32 = .ok (.iload_n 1, 1) := by decide +kernel
theorem dX4_sizesTogether_33 : decode cX4_sizesTogether 33 = .ok (.ireturn, 1) := by decide +kernel
theorem dX5_init_0 : decode cX5_init 0 = .ok (.aload_n 0, 1) := by decide +kernel
theorem dX5_init_1 : decode cX5_init 1 = .ok (.invokespecial 3, 3) := by decide +kernel
theorem dX5_init_4 : decode cX5_init 4 = .ok (.aload_n 0, 1) := by decide +kernel
theorem dX5_init_5 : decode cX5_init 5 = .ok (.new 9, 3) := by decide +kernel
theorem dX5_init_8 : decode cX5_init 8 = .ok (.dup, 1) := by decide +kernel
theorem dX5_init_9 : decode cX5_init 9 = .ok (.sipush 1000, 3) := by decide +kernel
theorem dX5_init_12 : decode cX5_init 12 = .ok (.invokespecial 11, 3) := by decide +kernel
theorem dX5_init_15 : decode cX5_init 15 = .ok (.putfield 14, 3) := by decide +kernel
theorem dX5_init_18 : decode cX5_init 18 = .ok (.aload_n 0, 1) := by decide +kernel
theorem dX5_init_19 : decode cX5_init 19 = .ok (.new 9, 3) := by decide +kernel
theorem dX5_init_22 : decode cX5_init 22 = .ok (.dup, 1) := by decide +kernel
theorem dX5_init_23 : decode cX5_init 23 = .ok (.bipush 7, 2) := by decide +kernel
theorem dX5_init_25 : decode cX5_init 25 = .ok (.invokespecial 11, 3) := by decide +kernel
theorem dX5_init_28 : decode cX5_init 28 = .ok (.putfield 20, 3) := by decide +kernel
theorem dX5_init_31 : decode cX5_init 31 = .ok (.aload_n 0, 1) := by decide +kernel
theorem dX5_init_32 : decode cX5_init 32 = .ok (.new 9, 3) := by decide +kernel
theorem dX5_init_35 : decode cX5_init 35 = .ok (.dup, 1) := by decide +kernel
theorem dX5_init_36 : decode cX5_init 36 = .ok (.bipush 7, 2) := by decide +kernel
theorem dX5_init_38 : decode cX5_init 38 = .ok (.invokespecial 11, 3) := by decide +kernel
theorem dX5_init_41 : decode cX5_init 41 = .ok (.putfield 23, 3) := by decide +kernel
theorem dX5_init_44 : decode cX5_init 44 = .ok (.aload_n 0, 1) := by decide +kernel
theorem dX5_init_45 : decode cX5_init 45 = .ok (.iconst 0, 1) := by decide +kernel
theorem dX5_init_46 : decode cX5_init 46 = .ok (.putfield 26, 3) := by decide +kernel
theorem dX5_init_49 : decode cX5_init 49 = .ok (.aload_n 0, 1) := by decide +kernel
theorem dX5_init_50 : decode cX5_init 50 = .ok (.iconst 0, 1) := by decide +kernel
theorem dX5_init_51 : decode cX5_init 51 = .ok (.putfield 30, 3) := by decide +kernel
theorem dX5_init_54 : decode cX5_init 54 = .ok (.aload_n 0, 1) := by decide +kernel
theorem dX5_init_55 : decode cX5_init 55 = .ok (.iconst 0, 1) := by decide +kernel
theorem dX5_init_56 : decode cX5_init 56 = .ok (.putfield 34, 3) := by decide +kernel
theorem dX5_init_59 : decode cX5_init 59 = .ok (.aload_n 0, 1) := by decide +kernel
theorem dX5_init_60 : decode cX5_init 60 = .ok (.iconst 0, 1) := by decide +kernel
theorem dX5_init_61 : decode cX5_init 61 = .ok (.putfield 37, 3) := by decide +kernel
theorem dX5_init_64 : decode cX5_init 64 = .ok (.return_, 1) := by decide +kernel
theorem dX5_readPacked_0 : decode cX5_readPacked 0 = .ok (.aload_n 2, 1) := by decide +kernel
theorem dX5_readPacked_1 : decode cX5_readPacked 1 = .ok (.invokevirtual 40, 3) := by decide +kernel
theorem dX5_readPacked_4 : decode cX5_readPacked 4 = .ok (.new 45, 3) := by decide +kernel
theorem dX5_readPacked_7 : decode cX5_readPacked 7 = .ok (.dup, 1) := by decide +kernel
theorem dX5_readPacked_8 : decode cX5_readPacked 8 = .ok (.aload_n 1, 1) := by decide +kernel
theorem dX5_readPacked_9 : decode cX5_readPacked 9 = .ok (.iconst 0, 1) := by decide +kernel
theorem dX5_readPacked_10 : decode cX5_readPacked 10 = .ok (.aload_n 1, 1) := by decide +kernel
theorem dX5_readPacked_11 : decode cX5_readPacked 11 = .ok (.invokevirtual 47, 3) := by decide +kernel
theorem dX5_readPacked_14 : decode cX5_readPacked 14 = .ok (.invokespecial 51, 3) := by decide +kernel
theorem dX5_readPacked_17 : decode cX5_readPacked 17 = .ok (.astore_n 3, 1) := by decide +kernel
theorem dX5_readPacked_18 : decode cX5_readPacked 18 = .ok (.aload_n 0, 1) := by decide +kernel
theorem dX5_readPacked_19 : decode cX5_readPacked 19 = .ok (.aload_n 3, 1) := by decide +kernel
theorem dX5_readPacked_20 : decode cX5_readPacked 20 = .ok (.invokevirtual 54, 3) := by decide +kernel
theorem dX5_readPacked_23 : decode cX5_readPacked 23 = .ok (.ifCond .ne 5, 3) := by decide +kernel
theorem dX5_readPacked_26 : decode cX5_readPacked 26 = .ok (.iconst 1, 1) := by decide +kernel
theorem dX5_readPacked_27 : decode cX5_readPacked 27 = .ok (.ireturn, 1) := by decide +kernel
theorem dX5_readPacked_28 : decode cX5_readPacked 28 = .ok (.aload_n 0, 1) := by decide +kernel
theorem dX5_readPacked_29 : decode cX5_readPacked 29 = .ok (.new 58, 3) := by decide +kernel
theorem dX5_readPacked_32 : decode cX5_readPacked 32 = .ok (.dup, 1) := by decide +kernel
theorem dX5_readPacked_33 : decode cX5_readPacked 33 = .ok (.aload_n 1, 1) := by decide +kernel
theorem dX5_readPacked_34 : decode cX5_readPacked 34 = .ok (.aload_n 3, 1) := by decide +kernel
theorem dX5_readPacked_35 : decode cX5_readPacked 35 = .ok (.invokevirtual 60, 3) := by decide +kernel
theorem dX5_readPacked_38 : decode cX5_readPacked 38 = .ok (.invokespecial 63, 3) := by decide +kernel
theorem dX5_readPacked_41 : decode cX5_readPacked 41 = .ok (.invokevirtual 66, 3) := by decide +kernel
theorem dX5_readPacked_44 : decode cX5_readPacked 44 = .ok (.ifCond .ne 5, 3) := by decide +kernel
theorem dX5_readPacked_47 : decode cX5_readPacked 47 = .ok (.iconst 2, 1) := by decide +kernel
theorem dX5_readPacked_48 : decode cX5_readPacked 48 = .ok (.ireturn, 1) := by decide +kernel
theorem dX5_readPacked_49 : decode cX5_readPacked 49 = .ok (.aload_n 0, 1) := by decide +kernel
theorem dX5_readPacked_50 : decode cX5_readPacked 50 = .ok (.getfield 26, 3) := by decide +kernel
theorem dX5_readPacked_53 : decode cX5_readPacked 53 = .ok (.ifCond .eq 21, 3) := by decide +kernel
theorem dX5_readPacked_56 : decode cX5_readPacked 56 = .ok (.aload_n 0, 1) := by decide +kernel
theorem dX5_readPacked_57 : decode cX5_readPacked 57 = .ok (.aload_n 2, 1) := by decide +kernel
theorem dX5_readPacked_58 : decode cX5_readPacked 58 = .ok (.invokevirtual 70, 3) := by decide +kernel
theorem dX5_readPacked_61 : decode cX5_readPacked 61 = .ok (.ifCond .eq 11, 3) := by decide +kernel
theorem dX5_readPacked_64 : decode cX5_readPacked 64 = .ok (.aload_n 0, 1) := by decide +kernel
theorem dX5_readPacked_65 : decode cX5_readPacked 65 = .ok (.aload_n 2, 1) := by decide +kernel
theorem dX5_readPacked_66 : decode cX5_readPacked 66 = .ok (.invokevirtual 74, 3) := by decide +kernel
theorem dX5_readPacked_69 : decode cX5_readPacked 69 = .ok (.ifCond .ne 5, 3) := by decide +kernel
theorem dX5_readPacked_72 : decode cX5_readPacked 72 = .ok (.iconst 3, 1) := by decide +kernel
theorem dX5_readPacked_73 : decode cX5_readPacked 73 = .ok (.ireturn, 1) := by decide +kernel
theorem dX5_readPacked_74 : decode cX5_readPacked 74 = .ok (.aload_n 0, 1) := by decide +kernel
theorem dX5_readPacked_75 : decode cX5_readPacked 75 = .ok (.aload_n 2, 1) := by decide +kernel
theorem dX5_readPacked_76 : decode cX5_readPacked 76 = .ok (.invokevirtual 77, 3) := by decide +kernel
theorem dX5_readPacked_79 : decode cX5_readPacked 79 = .ok (.aload_n 2, 1) := by decide +kernel
theorem dX5_readPacked_80 : decode cX5_readPacked 80 = .ok (.invokestatic 81, 3) := by decide +kernel
theorem dX5_readPacked_83 : decode cX5_readPacked 83 = .ok (.aload_n 2, 1) := by decide +kernel
theorem dX5_readPacked_84 : decode cX5_readPacked 84 = .ok (.iconst 0, 1) := by decide +kernel
theorem dX5_readPacked_85 : decode cX5_readPacked 85 = .ok (.invokevirtual 86, 3) := by decide +kernel
theorem dX5_readPacked_88 : decode cX5_readPacked 88 = .ok (.invokevirtual 47, 3) := by decide +kernel
theorem dX5_readPacked_91 : decode cX5_readPacked 91 = .ok (.aload_n 0, 1) := by decide +kernel
theorem dX5_readPacked_92 : decode cX5_readPacked 92 = .ok (.getfield 20, 3) := by decide +kernel
theorem dX5_readPacked_95 : decode cX5_readPacked 95 = .ok (.iconst 0, 1) := by decide +kernel
theorem dX5_readPacked_96 : decode cX5_readPacked 96 = .ok (.invokevirtual 90, 3) := by decide +kernel
theorem dX5_readPacked_99 : decode cX5_readPacked 99 = .ok (.if_icmp .ne 26, 3) := by decide +kernel
theorem dX5_readPacked_102 : decode cX5_readPacked 102 = .ok (.aload_n 2, 1) := by decide +kernel
theorem dX5_readPacked_103 : decode cX5_readPacked 103 = .ok (.iconst 1, 1) := by decide +kernel
theorem dX5_readPacked_104 : decode cX5_readPacked 104 = .ok (.invokevirtual 86, 3) := by decide +kernel
theorem dX5_readPacked_107 : decode cX5_readPacked 107 = .ok (.invokevirtual 47, 3) := by decide +kernel
theorem dX5_readPacked_110 : decode cX5_readPacked 110 = .ok (.aload_n 0, 1) := by decide +kernel
theorem dX5_readPacked_111 : decode cX5_readPacked 111 = .ok (.getfield 20, 3) := by decide +kernel
theorem dX5_readPacked_114 : decode cX5_readPacked 114 = .ok (.iconst 1, 1) := by decide +kernel
theorem dX5_readPacked_115 : decode cX5_readPacked 115 = .ok (.invokevirtual 90, 3) := by decide +kernel
theorem dX5_readPacked_118 : decode cX5_readPacked 118 = .ok (.if_icmp .ne 7, 3) := by decide +kernel
theorem dX5_readPacked_121 : decode cX5_readPacked 121 = .ok (.iconst 1, 1) := by decide +kernel
theorem dX5_readPacked_122 : decode cX5_readPacked 122 = .ok (.goto 4, 3) := by decide +kernel
theorem dX5_readPacked_125 : decode cX5_readPacked 125 = .ok (.iconst 0, 1) := by decide +kernel
theorem dX5_readPacked_126 : decode cX5_readPacked 126 = .ok (.istore 4, 2) := by decide +kernel
theorem dX5_readPacked_128 : decode cX5_readPacked 128 = .ok (.iload 4, 2) := by decide +kernel
theorem dX5_readPacked_130 : decode cX5_readPacked 130 = .ok (.ifCond .eq 7, 3) := by decide +kernel
theorem dX5_readPacked_133 : decode cX5_readPacked 133 = .ok (.iconst 0, 1) := by decide +kernel
theorem dX5_readPacked_134 : decode cX5_readPacked 134 = .ok (.goto 4, 3) := by decide +kernel
theorem dX5_readPacked_137 : decode cX5_readPacked 137 = .ok (.iconst 4, 1) := by decide +kernel
theorem dX5_readPacked_138 : decode cX5_readPacked 138 = .ok (.ireturn, 1) := by decide +kernel
theorem dX5_readHead_0 : decode cX5_readHead 0 = .ok (.aload_n 1, 1) := by decide +kernel
theorem dX5_readHead_1 : decode cX5_readHead 1 = .ok (.invokevirtual 94, 3) := by decide +kernel
theorem dX5_readHead_4 : decode cX5_readHead 4 = .ok (.bipush 119, 2) := by decide +kernel
theorem dX5_readHead_6 : decode cX5_readHead 6 = .ok (.if_icmp .ne 12, 3) := by decide +kernel
theorem dX5_readHead_9 : decode cX5_readHead 9 = .ok (.aload_n 1, 1) := by decide +kernel
theorem dX5_readHead_10 : decode cX5_readHead 10 = .ok (.invokevirtual 94, 3) := by decide +kernel
theorem dX5_readHead_13 : decode cX5_readHead 13 = .ok (.bipush 50, 2) := by decide +kernel
theorem dX5_readHead_15 : decode cX5_readHead 15 = .ok (.if_icmp .eq 5, 3) := by decide +kernel
theorem dX5_readHead_18 : decode cX5_readHead 18 = .ok (.iconst 0, 1) := by decide +kernel
theorem dX5_readHead_19 : decode cX5_readHead 19 = .ok (.ireturn, 1) := by decide +kernel
theorem dX5_readHead_20 : decode cX5_readHead 20 = .ok (.aload_n 0, 1) := by decide +kernel
theorem dX5_readHead_21 : decode cX5_readHead 21 = .ok (.getfield 20, 3) := by decide +kernel
theorem dX5_readHead_24 : decode cX5_readHead 24 = .ok (.invokevirtual 97, 3) := by decide +kernel
theorem dX5_readHead_27 : decode cX5_readHead 27 = .ok (.aload_n 0, 1) := by decide +kernel
theorem dX5_readHead_28 : decode cX5_readHead 28 = .ok (.getfield 20, 3) := by decide +kernel
theorem dX5_readHead_31 : decode cX5_readHead 31 = .ok (.bipush 7, 2) := by decide +kernel
theorem dX5_readHead_33 : decode cX5_readHead 33 = .ok (.invokevirtual 98, 3) := by decide +kernel
theorem dX5_readHead_36 : decode cX5_readHead 36 = .ok (.aload_n 0, 1) := by decide +kernel
theorem dX5_readHead_37 : decode cX5_readHead 37 = .ok (.getfield 23, 3) := by decide +kernel
theorem dX5_readHead_40 : decode cX5_readHead 40 = .ok (.invokevirtual 97, 3) := by decide +kernel
theorem dX5_readHead_43 : decode cX5_readHead 43 = .ok (.aload_n 0, 1) := by decide +kernel
theorem dX5_readHead_44 : decode cX5_readHead 44 = .ok (.getfield 23, 3) := by decide +kernel
theorem dX5_readHead_47 : decode cX5_readHead 47 = .ok (.bipush 7, 2) := by decide +kernel
theorem dX5_readHead_49 : decode cX5_readHead 49 = .ok (.invokevirtual 98, 3) := by decide +kernel
theorem dX5_readHead_52 : decode cX5_readHead 52 = .ok (.aload_n 1, 1) := by decide +kernel
theorem dX5_readHead_53 : decode cX5_readHead 53 = .ok (.invokevirtual 94, 3) := by decide +kernel
theorem dX5_readHead_56 : decode cX5_readHead 56 = .ok (.istore_n 2, 1) := by decide +kernel
theorem dX5_readHead_57 : decode cX5_readHead 57 = .ok (.iconst 0, 1) := by decide +kernel
theorem dX5_readHead_58 : decode cX5_readHead 58 = .ok (.istore_n 3, 1) := by decide +kernel
theorem dX5_readHead_59 : decode cX5_readHead 59 = .ok (.iconst (-1), 1) := by decide +kernel
theorem dX5_readHead_60 : decode cX5_readHead 60 = .ok (.istore 4, 2) := by decide +kernel
theorem dX5_readHead_62 : decode cX5_readHead 62 = .ok (.iconst 0, 1) := by decide +kernel
theorem dX5_readHead_63 : decode cX5_readHead 63 = .ok (.istore 5, 2) := by decide +kernel
theorem dX5_readHead_65 : decode cX5_readHead 65 = .ok (.iconst 0, 1) := by decide +kernel
theorem dX5_readHead_66 : decode cX5_readHead 66 = .ok (.istore 6, 2) := by decide +kernel
theorem dX5_readHead_68 : decode cX5_readHead 68 = .ok (.iconst 0, 1) := by decide +kernel
theorem dX5_readHead_69 : decode cX5_readHead 69 = .ok (.istore 7, 2) := by decide +kernel
theorem dX5_readHead_71 : decode cX5_readHead 71 = .ok (.iload 7, 2) := by decide +kernel
theorem dX5_readHead_73 : decode cX5_readHead 73 = .ok (.iload_n 2, 1) := by decide +kernel
theorem dX5_readHead_74 : decode cX5_readHead 74 = .ok (.if_icmp .ge 95, 3) := by decide +kernel
theorem dX5_readHead_77 : decode cX5_readHead 77 = .ok (.aload_n 1, 1) := by decide +kernel
theorem dX5_readHead_78 : decode cX5_readHead 78 = .ok (.invokevirtual 94, 3) := by decide +kernel
theorem dX5_readHead_81 : decode cX5_readHead 81 = .ok (.invokestatic 101, 3) := by decide +kernel
theorem dX5_readHead_84 : decode cX5_readHead 84 = .ok (.istore 8, 2) := by decide +kernel
theorem dX5_readHead_86 : decode cX5_readHead 86 = .ok (.aload_n 1, 1) := by decide +kernel
theorem dX5_readHead_87 : decode cX5_readHead 87 = .ok (.invokevirtual 104, 3) := by decide +kernel
theorem dX5_readHead_90 : decode cX5_readHead 90 = .ok (.ifCond .ne 20, 3) := by decide +kernel
theorem dX5_readHead_93 : decode cX5_readHead 93 = .ok (.iload 8, 2) := by decide +kernel
theorem dX5_readHead_95 : decode cX5_readHead 95 = .ok (.iload 4, 2) := by decide +kernel
theorem dX5_readHead_97 : decode cX5_readHead 97 = .ok (.if_icmp .le 13, 3) := by decide +kernel
theorem dX5_readHead_100 : decode cX5_readHead 100 = .ok (.aload_n 0, 1) := by decide +kernel
theorem dX5_readHead_101 : decode cX5_readHead 101 = .ok (.iload 8, 2) := by decide +kernel
theorem dX5_readHead_103 : decode cX5_readHead 103 = .ok (.aload_n 1, 1) := by decide +kernel
theorem dX5_readHead_104 : decode cX5_readHead 104 = .ok (.invokevirtual 108, 3) := by decide +kernel
theorem dX5_readHead_107 : decode cX5_readHead 107 = .ok (.ifCond .ne 5, 3) := by decide +kernel
theorem dX5_readHead_110 : decode cX5_readHead 110 = .ok (.iconst 0, 1) := by decide +kernel
theorem dX5_readHead_111 : decode cX5_readHead 111 = .ok (.ireturn, 1) := by decide +kernel
theorem dX5_readHead_112 : decode cX5_readHead 112 = .ok (.iload_n 3, 1) := by decide +kernel
theorem dX5_readHead_113 : decode cX5_readHead 113 = .ok (.aload_n 0, 1) := by decide +kernel
theorem dX5_readHead_114 : decode cX5_readHead 114 = .ok (.getfield 23, 3) := by decide +kernel
theorem dX5_readHead_117 : decode cX5_readHead 117 = .ok (.iload 8, 2) := by decide +kernel
theorem dX5_readHead_119 : decode cX5_readHead 119 = .ok (.invokevirtual 90, 3) := by decide +kernel
theorem dX5_readHead_122 : decode cX5_readHead 122 = .ok (.iadd, 1) := by decide +kernel
theorem dX5_readHead_123 : decode cX5_readHead 123 = .ok (.istore_n 3, 1) := by decide +kernel
theorem dX5_readHead_124 : decode cX5_readHead 124 = .ok (.iload 5, 2) := by decide +kernel
theorem dX5_readHead_126 : decode cX5_readHead 126 = .ok (.ifCond .ne 8, 3) := by decide +kernel
theorem dX5_readHead_129 : decode cX5_readHead 129 = .ok (.iload 8, 2) := by decide +kernel
theorem dX5_readHead_131 : decode cX5_readHead 131 = .ok (.ifCond .ne 7, 3) := by decide +kernel
theorem dX5_readHead_134 : decode cX5_readHead 134 = .ok (.iconst 1, 1) := by decide +kernel
theorem dX5_readHead_135 : decode cX5_readHead 135 = .ok (.goto 4, 3) := by decide +kernel
theorem dX5_readHead_138 : decode cX5_readHead 138 = .ok (.iconst 0, 1) := by decide +kernel
theorem dX5_readHead_139 : decode cX5_readHead 139 = .ok (.istore 5, 2) := by decide +kernel
theorem dX5_readHead_141 : decode cX5_readHead 141 = .ok (.iload 6, 2) := by decide +kernel
theorem dX5_readHead_143 : decode cX5_readHead 143 = .ok (.ifCond .ne 9, 3) := by decide +kernel
theorem dX5_readHead_146 : decode cX5_readHead 146 = .ok (.iload 8, 2) := by decide +kernel
theorem dX5_readHead_148 : decode cX5_readHead 148 = .ok (.iconst 1, 1) := by decide +kernel
theorem dX5_readHead_149 : decode cX5_readHead 149 = .ok (.if_icmp .ne 7, 3) := by decide +kernel
theorem dX5_readHead_152 : decode cX5_readHead 152 = .ok (.iconst 1, 1) := by decide +kernel
theorem dX5_readHead_153 : decode cX5_readHead 153 = .ok (.goto 4, 3) := by decide +kernel
theorem dX5_readHead_156 : decode cX5_readHead 156 = .ok (.iconst 0, 1) := by decide +kernel
theorem dX5_readHead_157 : decode cX5_readHead 157 = .ok (.istore 6, 2) := by decide +kernel
theorem dX5_readHead_159 : decode cX5_readHead 159 = .ok (.iload 8, 2) := by decide +kernel
theorem dX5_readHead_161 : decode cX5_readHead 161 = .ok (.istore 4, 2) := by decide +kernel
theorem dX5_readHead_163 : decode cX5_readHead 163 = .ok (.iinc 7 1, 3) := by decide +kernel
theorem dX5_readHead_166 : decode cX5_readHead 166 = .ok (.goto (-95), 3) := by decide +kernel
theorem dX5_readHead_169 : decode cX5_readHead 169 = .ok (.aload_n 0, 1) := by decide +kernel
theorem dX5_readHead_170 : decode cX5_readHead 170 = .ok (.iload 5, 2) := by decide +kernel
theorem dX5_readHead_172 : decode cX5_readHead 172 = .ok (.putfield 26, 3) := by decide +kernel
theorem dX5_readHead_175 : decode cX5_readHead 175 = .ok (.aload_n 0, 1) := by decide +kernel
theorem dX5_readHead_176 : decode cX5_readHead 176 = .ok (.aload_n 1, 1) := by decide +kernel
theorem dX5_readHead_177 : decode cX5_readHead 177 = .ok (.invokevirtual 112, 3) := by decide +kernel
theorem dX5_readHead_180 : decode cX5_readHead 180 = .ok (.putfield 30, 3) := by decide +kernel
theorem dX5_readHead_183 : decode cX5_readHead 183 = .ok (.aload_n 1, 1) := by decide +kernel
theorem dX5_readHead_184 : decode cX5_readHead 184 = .ok (.invokevirtual 104, 3) := by decide +kernel
theorem dX5_readHead_187 : decode cX5_readHead 187 = .ok (.ifCond .ne 32, 3) := by decide +kernel
theorem dX5_readHead_190 : decode cX5_readHead 190 = .ok (.iload 5, 2) := by decide +kernel
theorem dX5_readHead_192 : decode cX5_readHead 192 = .ok (.iload 6, 2) := by decide +kernel
theorem dX5_readHead_194 : decode cX5_readHead 194 = .ok (.if_icmp .ne 25, 3) := by decide +kernel
theorem dX5_readHead_197 : decode cX5_readHead 197 = .ok (.aload_n 0, 1) := by decide +kernel
theorem dX5_readHead_198 : decode cX5_readHead 198 = .ok (.getfield 30, 3) := by decide +kernel
theorem dX5_readHead_201 : decode cX5_readHead 201 = .ok (.iload_n 3, 1) := by decide +kernel
theorem dX5_readHead_202 : decode cX5_readHead 202 = .ok (.if_icmp .ne 17, 3) := by decide +kernel
theorem dX5_readHead_205 : decode cX5_readHead 205 = .ok (.aload_n 0, 1) := by decide +kernel
theorem dX5_readHead_206 : decode cX5_readHead 206 = .ok (.getfield 30, 3) := by decide +kernel
theorem dX5_readHead_209 : decode cX5_readHead 209 = .ok (.sipush 1000, 3) := by decide +kernel
theorem dX5_readHead_212 : decode cX5_readHead 212 = .ok (.if_icmp .gt 7, 3) := by decide +kernel
theorem dX5_readHead_215 : decode cX5_readHead 215 = .ok (.iconst 1, 1) := by decide +kernel
theorem dX5_readHead_216 : decode cX5_readHead 216 = .ok (.goto 4, 3) := by decide +kernel
theorem dX5_readHead_219 : decode cX5_readHead 219 = .ok (.iconst 0, 1) := by decide +kernel
theorem dX5_readHead_220 : decode cX5_readHead 220 = .ok (.ireturn, 1) := by decide +kernel
theorem dX5_tableOfMark_0 : decode cX5_tableOfMark 0 = .ok (.iload_n 0, 1) := by decide +kernel
theorem dX5_tableOfMark_1 : decode cX5_tableOfMark 1 = .ok (.bipush 64, 2) := by decide +kernel
theorem dX5_tableOfMark_3 : decode cX5_tableOfMark 3 = .ok (.if_icmp .eq 9, 3) := by decide +kernel
theorem dX5_tableOfMark_6 : decode cX5_tableOfMark 6 = .ok (.iload_n 0, 1) := by decide +kernel
theorem dX5_tableOfMark_7 : decode cX5_tableOfMark 7 = .ok (.bipush 65, 2) := by decide +kernel
theorem dX5_tableOfMark_9 : decode cX5_tableOfMark 9 = .ok (.if_icmp .ne 8, 3) := by decide +kernel
theorem dX5_tableOfMark_12 : decode cX5_tableOfMark 12 = .ok (.iload_n 0, 1) := by decide +kernel
theorem dX5_tableOfMark_13 : decode cX5_tableOfMark 13 = .ok (.bipush 64, 2) := by decide +kernel
theorem dX5_tableOfMark_15 : decode cX5_tableOfMark 15 = .ok (.isub, 1) := by decide +kernel
theorem dX5_tableOfMark_16 : decode cX5_tableOfMark 16 = .ok (.ireturn, 1) := by decide +kernel
theorem dX5_tableOfMark_17 : decode cX5_tableOfMark 17 = .ok (.iload_n 0, 1) := by decide +kernel
theorem dX5_tableOfMark_18 : decode cX5_tableOfMark 18 = .ok (.iconst 2, 1) := by decide +kernel
theorem dX5_tableOfMark_19 : decode cX5_tableOfMark 19 = .ok (.if_icmp .lt 13, 3) := by decide +kernel
theorem dX5_tableOfMark_22 : decode cX5_tableOfMark 22 = .ok (.iload_n 0, 1) := by decide +kernel
theorem dX5_tableOfMark_23 : decode cX5_tableOfMark 23 = .ok (.bipush 7, 2) := by decide +kernel
theorem dX5_tableOfMark_25 : decode cX5_tableOfMark 25 = .ok (.if_icmp .ge 7, 3) := by decide +kernel
theorem dX5_tableOfMark_28 : decode cX5_tableOfMark 28 = .ok (.iload_n 0, 1) := by decide +kernel
theorem dX5_tableOfMark_29 : decode cX5_tableOfMark 29 = .ok (.goto 4, 3) := by decide +kernel
theorem dX5_tableOfMark_32 : decode cX5_tableOfMark 32 = .ok (.iconst (-1), 1) := by decide +kernel
theorem dX5_tableOfMark_33 : decode cX5_tableOfMark 33 = .ok (.ireturn, 1) := by decide +kernel
theorem dX5_readLengths_0 : decode cX5_readLengths 0 = .ok (.aload_n 2, 1) := by decide +kernel
theorem dX5_readLengths_1 : decode cX5_readLengths 1 = .ok (.invokevirtual 112, 3) := by decide +kernel
theorem dX5_readLengths_4 : decode cX5_readLengths 4 = .ok (.istore_n 3, 1) := by decide +kernel
theorem dX5_readLengths_5 : decode cX5_readLengths 5 = .ok (.aload_n 0, 1) := by decide +kernel
theorem dX5_readLengths_6 : decode cX5_readLengths 6 = .ok (.getfield 20, 3) := by decide +kernel
theorem dX5_readLengths_9 : decode cX5_readLengths 9 = .ok (.iload_n 1, 1) := by decide +kernel
theorem dX5_readLengths_10 : decode cX5_readLengths 10 = .ok (.iload_n 3, 1) := by decide +kernel
theorem dX5_readLengths_11 : decode cX5_readLengths 11 = .ok (.invokevirtual 115, 3) := by decide +kernel
theorem dX5_readLengths_14 : decode cX5_readLengths 14 = .ok (.iload_n 1, 1) := by decide +kernel
theorem dX5_readLengths_15 : decode cX5_readLengths 15 = .ok (.iconst 2, 1) := by decide +kernel
theorem dX5_readLengths_16 : decode cX5_readLengths 16 = .ok (.if_icmp .ge 28, 3) := by decide +kernel
theorem dX5_readLengths_19 : decode cX5_readLengths 19 = .ok (.aload_n 0, 1) := by decide +kernel
theorem dX5_readLengths_20 : decode cX5_readLengths 20 = .ok (.getfield 23, 3) := by decide +kernel
theorem dX5_readLengths_23 : decode cX5_readLengths 23 = .ok (.iload_n 1, 1) := by decide +kernel
theorem dX5_readLengths_24 : decode cX5_readLengths 24 = .ok (.aload_n 2, 1) := by decide +kernel
theorem dX5_readLengths_25 : decode cX5_readLengths 25 = .ok (.invokevirtual 112, 3) := by decide +kernel
theorem dX5_readLengths_28 : decode cX5_readLengths 28 = .ok (.invokevirtual 115, 3) := by decide +kernel
theorem dX5_readLengths_31 : decode cX5_readLengths 31 = .ok (.aload_n 2, 1) := by decide +kernel
theorem dX5_readLengths_32 : decode cX5_readLengths 32 = .ok (.invokevirtual 104, 3) := by decide +kernel
theorem dX5_readLengths_35 : decode cX5_readLengths 35 = .ok (.ifCond .ne 7, 3) := by decide +kernel
theorem dX5_readLengths_38 : decode cX5_readLengths 38 = .ok (.iconst 1, 1) := by decide +kernel
theorem dX5_readLengths_39 : decode cX5_readLengths 39 = .ok (.goto 4, 3) := by decide +kernel
theorem dX5_readLengths_42 : decode cX5_readLengths 42 = .ok (.iconst 0, 1) := by decide +kernel
theorem dX5_readLengths_43 : decode cX5_readLengths 43 = .ok (.ireturn, 1) := by decide +kernel
theorem dX5_readLengths_44 : decode cX5_readLengths 44 = .ok (.aload_n 0, 1) := by decide +kernel
theorem dX5_readLengths_45 : decode cX5_readLengths 45 = .ok (.getfield 23, 3) := by decide +kernel
theorem dX5_readLengths_48 : decode cX5_readLengths 48 = .ok (.iload_n 1, 1) := by decide +kernel
theorem dX5_readLengths_49 : decode cX5_readLengths 49 = .ok (.iload_n 3, 1) := by decide +kernel
theorem dX5_readLengths_50 : decode cX5_readLengths 50 = .ok (.invokevirtual 115, 3) := by decide +kernel
theorem dX5_readLengths_53 : decode cX5_readLengths 53 = .ok (.aload_n 2, 1) := by decide +kernel
theorem dX5_readLengths_54 : decode cX5_readLengths 54 = .ok (.invokevirtual 104, 3) := by decide +kernel
theorem dX5_readLengths_57 : decode cX5_readLengths 57 = .ok (.ifCond .ne 18, 3) := by decide +kernel
theorem dX5_readLengths_60 : decode cX5_readLengths 60 = .ok (.iload_n 3, 1) := by decide +kernel
theorem dX5_readLengths_61 : decode cX5_readLengths 61 = .ok (.iconst 1, 1) := by decide +kernel
theorem dX5_readLengths_62 : decode cX5_readLengths 62 = .ok (.if_icmp .lt 13, 3) := by decide +kernel
theorem dX5_readLengths_65 : decode cX5_readLengths 65 = .ok (.iload_n 3, 1) := by decide +kernel
theorem dX5_readLengths_66 : decode cX5_readLengths 66 = .ok (.bipush 20, 2) := by decide +kernel
theorem dX5_readLengths_68 : decode cX5_readLengths 68 = .ok (.if_icmp .gt 7, 3) := by decide +kernel
theorem dX5_readLengths_71 : decode cX5_readLengths 71 = .ok (.iconst 1, 1) := by decide +kernel
theorem dX5_readLengths_72 : decode cX5_readLengths 72 = .ok (.goto 4, 3) := by decide +kernel
theorem dX5_readLengths_75 : decode cX5_readLengths 75 = .ok (.iconst 0, 1) := by decide +kernel
theorem dX5_readLengths_76 : decode cX5_readLengths 76 = .ok (.ireturn, 1) := by decide +kernel
theorem dX5_expandStream_0 : decode cX5_expandStream 0 = .ok (.aload_n 0, 1) := by decide +kernel
theorem dX5_expandStream_1 : decode cX5_expandStream 1 = .ok (.getfield 14, 3) := by decide +kernel
theorem dX5_expandStream_4 : decode cX5_expandStream 4 = .ok (.invokevirtual 97, 3) := by decide +kernel
theorem dX5_expandStream_7 : decode cX5_expandStream 7 = .ok (.iconst 0, 1) := by decide +kernel
theorem dX5_expandStream_8 : decode cX5_expandStream 8 = .ok (.istore_n 2, 1) := by decide +kernel
theorem dX5_expandStream_9 : decode cX5_expandStream 9 = .ok (.iload_n 2, 1) := by decide +kernel
theorem dX5_expandStream_10 : decode cX5_expandStream 10 = .ok (.aload_n 0, 1) := by decide +kernel
theorem dX5_expandStream_11 : decode cX5_expandStream 11 = .ok (.getfield 30, 3) := by decide +kernel
theorem dX5_expandStream_14 : decode cX5_expandStream 14 = .ok (.if_icmp .ge 73, 3) := by decide +kernel
theorem dX5_expandStream_17 : decode cX5_expandStream 17 = .ok (.aload_n 0, 1) := by decide +kernel
theorem dX5_expandStream_18 : decode cX5_expandStream 18 = .ok (.getfield 14, 3) := by decide +kernel
theorem dX5_expandStream_21 : decode cX5_expandStream 21 = .ok (.invokevirtual 47, 3) := by decide +kernel
theorem dX5_expandStream_24 : decode cX5_expandStream 24 = .ok (.aload_n 0, 1) := by decide +kernel
theorem dX5_expandStream_25 : decode cX5_expandStream 25 = .ok (.getfield 30, 3) := by decide +kernel
theorem dX5_expandStream_28 : decode cX5_expandStream 28 = .ok (.if_icmp .ge 59, 3) := by decide +kernel
theorem dX5_expandStream_31 : decode cX5_expandStream 31 = .ok (.aload_n 1, 1) := by decide +kernel
theorem dX5_expandStream_32 : decode cX5_expandStream 32 = .ok (.iconst 1, 1) := by decide +kernel
theorem dX5_expandStream_33 : decode cX5_expandStream 33 = .ok (.invokevirtual 119, 3) := by decide +kernel
theorem dX5_expandStream_36 : decode cX5_expandStream 36 = .ok (.ifCond .ne 19, 3) := by decide +kernel
theorem dX5_expandStream_39 : decode cX5_expandStream 39 = .ok (.aload_n 0, 1) := by decide +kernel
theorem dX5_expandStream_40 : decode cX5_expandStream 40 = .ok (.getfield 14, 3) := by decide +kernel
theorem dX5_expandStream_43 : decode cX5_expandStream 43 = .ok (.aload_n 1, 1) := by decide +kernel
theorem dX5_expandStream_44 : decode cX5_expandStream 44 = .ok (.bipush 8, 2) := by decide +kernel
theorem dX5_expandStream_46 : decode cX5_expandStream 46 = .ok (.invokevirtual 119, 3) := by decide +kernel
theorem dX5_expandStream_49 : decode cX5_expandStream 49 = .ok (.invokevirtual 122, 3) := by decide +kernel
theorem dX5_expandStream_52 : decode cX5_expandStream 52 = .ok (.goto 20, 3) := by decide +kernel
theorem dX5_expandStream_55 : decode cX5_expandStream 55 = .ok (.aload_n 0, 1) := by decide +kernel
theorem dX5_expandStream_56 : decode cX5_expandStream 56 = .ok (.aload_n 1, 1) := by decide +kernel
theorem dX5_expandStream_57 : decode cX5_expandStream 57 = .ok (.invokevirtual 125, 3) := by decide +kernel
theorem dX5_expandStream_60 : decode cX5_expandStream 60 = .ok (.aload_n 1, 1) := by decide +kernel
theorem dX5_expandStream_61 : decode cX5_expandStream 61 = .ok (.invokevirtual 125, 3) := by decide +kernel
theorem dX5_expandStream_64 : decode cX5_expandStream 64 = .ok (.invokevirtual 128, 3) := by decide +kernel
theorem dX5_expandStream_67 : decode cX5_expandStream 67 = .ok (.ifCond .ne 5, 3) := by decide +kernel
theorem dX5_expandStream_70 : decode cX5_expandStream 70 = .ok (.iconst 0, 1) := by decide +kernel
theorem dX5_expandStream_71 : decode cX5_expandStream 71 = .ok (.ireturn, 1) := by decide +kernel
theorem dX5_expandStream_72 : decode cX5_expandStream 72 = .ok (.aload_n 1, 1) := by decide +kernel
theorem dX5_expandStream_73 : decode cX5_expandStream 73 = .ok (.invokevirtual 132, 3) := by decide +kernel
theorem dX5_expandStream_76 : decode cX5_expandStream 76 = .ok (.ifCond .eq 5, 3) := by decide +kernel
theorem dX5_expandStream_79 : decode cX5_expandStream 79 = .ok (.iconst 0, 1) := by decide +kernel
theorem dX5_expandStream_80 : decode cX5_expandStream 80 = .ok (.ireturn, 1) := by decide +kernel
theorem dX5_expandStream_81 : decode cX5_expandStream 81 = .ok (.iinc 2 1, 3) := by decide +kernel
theorem dX5_expandStream_84 : decode cX5_expandStream 84 = .ok (.goto (-75), 3) := by decide +kernel
theorem dX5_expandStream_87 : decode cX5_expandStream 87 = .ok (.aload_n 1, 1) := by decide +kernel
theorem dX5_expandStream_88 : decode cX5_expandStream 88 = .ok (.invokevirtual 133, 3) := by decide +kernel
theorem dX5_expandStream_91 : decode cX5_expandStream 91 = .ok (.ireturn, 1) := by decide +kernel
theorem dX5_repeatBytes_0 : decode cX5_repeatBytes 0 = .ok (.iload_n 1, 1) := by decide +kernel
theorem dX5_repeatBytes_1 : decode cX5_repeatBytes 1 = .ok (.iconst 2, 1) := by decide +kernel
theorem dX5_repeatBytes_2 : decode cX5_repeatBytes 2 = .ok (.iadd, 1) := by decide +kernel
theorem dX5_repeatBytes_3 : decode cX5_repeatBytes 3 = .ok (.istore_n 3, 1) := by decide +kernel
theorem dX5_repeatBytes_4 : decode cX5_repeatBytes 4 = .ok (.iload_n 2, 1) := by decide +kernel
theorem dX5_repeatBytes_5 : decode cX5_repeatBytes 5 = .ok (.iconst 1, 1) := by decide +kernel
theorem dX5_repeatBytes_6 : decode cX5_repeatBytes 6 = .ok (.if_icmp .lt 30, 3) := by decide +kernel
theorem dX5_repeatBytes_9 : decode cX5_repeatBytes 9 = .ok (.iload_n 2, 1) := by decide +kernel
theorem dX5_repeatBytes_10 : decode cX5_repeatBytes 10 = .ok (.aload_n 0, 1) := by decide +kernel
theorem dX5_repeatBytes_11 : decode cX5_repeatBytes 11 = .ok (.getfield 14, 3) := by decide +kernel
theorem dX5_repeatBytes_14 : decode cX5_repeatBytes 14 = .ok (.invokevirtual 47, 3) := by decide +kernel
theorem dX5_repeatBytes_17 : decode cX5_repeatBytes 17 = .ok (.if_icmp .gt 19, 3) := by decide +kernel
theorem dX5_repeatBytes_20 : decode cX5_repeatBytes 20 = .ok (.iload_n 3, 1) := by decide +kernel
theorem dX5_repeatBytes_21 : decode cX5_repeatBytes 21 = .ok (.aload_n 0, 1) := by decide +kernel
theorem dX5_repeatBytes_22 : decode cX5_repeatBytes 22 = .ok (.getfield 30, 3) := by decide +kernel
theorem dX5_repeatBytes_25 : decode cX5_repeatBytes 25 = .ok (.aload_n 0, 1) := by decide +kernel
theorem dX5_repeatBytes_26 : decode cX5_repeatBytes 26 = .ok (.getfield 14, 3) := by decide +kernel
theorem dX5_repeatBytes_29 : decode cX5_repeatBytes 29 = .ok (.invokevirtual 47, 3) := by decide +kernel
theorem dX5_repeatBytes_32 : decode cX5_repeatBytes 32 = .ok (.isub, 1) := by decide +kernel
theorem dX5_repeatBytes_33 : decode cX5_repeatBytes 33 = .ok (.if_icmp .le 5, 3) := by decide +kernel
theorem dX5_repeatBytes_36 : decode cX5_repeatBytes 36 = .ok (.iconst 0, 1) := by decide +kernel
theorem dX5_repeatBytes_37 : decode cX5_repeatBytes 37 = .ok (.ireturn, 1) := by decide +kernel
theorem dX5_repeatBytes_38 : decode cX5_repeatBytes 38 = .ok (.iconst 0, 1) := by decide +kernel
theorem dX5_repeatBytes_39 : decode cX5_repeatBytes 39 = .ok (.istore 4, 2) := by decide +kernel
theorem dX5_repeatBytes_41 : decode cX5_repeatBytes 41 = .ok (.iload 4, 2) := by decide +kernel
theorem dX5_repeatBytes_43 : decode cX5_repeatBytes 43 = .ok (.iload_n 3, 1) := by decide +kernel
theorem dX5_repeatBytes_44 : decode cX5_repeatBytes 44 = .ok (.if_icmp .ge 32, 3) := by decide +kernel
theorem dX5_repeatBytes_47 : decode cX5_repeatBytes 47 = .ok (.aload_n 0, 1) := by decide +kernel
theorem dX5_repeatBytes_48 : decode cX5_repeatBytes 48 = .ok (.getfield 14, 3) := by decide +kernel
theorem dX5_repeatBytes_51 : decode cX5_repeatBytes 51 = .ok (.aload_n 0, 1) := by decide +kernel
theorem dX5_repeatBytes_52 : decode cX5_repeatBytes 52 = .ok (.getfield 14, 3) := by decide +kernel
theorem dX5_repeatBytes_55 : decode cX5_repeatBytes 55 = .ok (.aload_n 0, 1) := by decide +kernel
theorem dX5_repeatBytes_56 : decode cX5_repeatBytes 56 = .ok (.getfield 14, 3) := by decide +kernel
theorem dX5_repeatBytes_59 : decode cX5_repeatBytes 59 = .ok (.invokevirtual 47, 3) := by decide +kernel
theorem dX5_repeatBytes_62 : decode cX5_repeatBytes 62 = .ok (.iload_n 2, 1) := by decide +kernel
theorem dX5_repeatBytes_63 : decode cX5_repeatBytes 63 = .ok (.isub, 1) := by decide +kernel
theorem dX5_repeatBytes_64 : decode cX5_repeatBytes 64 = .ok (.invokevirtual 90, 3) := by decide +kernel
theorem dX5_repeatBytes_67 : decode cX5_repeatBytes 67 = .ok (.invokevirtual 122, 3) := by decide +kernel
theorem dX5_repeatBytes_70 : decode cX5_repeatBytes 70 = .ok (.iinc 4 1, 3) := by decide +kernel
theorem dX5_repeatBytes_73 : decode cX5_repeatBytes 73 = .ok (.goto (-32), 3) := by decide +kernel
theorem dX5_repeatBytes_76 : decode cX5_repeatBytes 76 = .ok (.iconst 1, 1) := by decide +kernel
theorem dX5_repeatBytes_77 : decode cX5_repeatBytes 77 = .ok (.ireturn, 1) := by decide +kernel
theorem dX5_readOutlines_0 : decode cX5_readOutlines 0 = .ok (.aload_n 0, 1) := by decide +kernel
theorem dX5_readOutlines_1 : decode cX5_readOutlines 1 = .ok (.getfield 23, 3) := by decide +kernel
theorem dX5_readOutlines_4 : decode cX5_readOutlines 4 = .ok (.iconst 0, 1) := by decide +kernel
theorem dX5_readOutlines_5 : decode cX5_readOutlines 5 = .ok (.invokevirtual 90, 3) := by decide +kernel
theorem dX5_readOutlines_8 : decode cX5_readOutlines 8 = .ok (.istore_n 2, 1) := by decide +kernel
theorem dX5_readOutlines_9 : decode cX5_readOutlines 9 = .ok (.new 45, 3) := by decide +kernel
theorem dX5_readOutlines_12 : decode cX5_readOutlines 12 = .ok (.dup, 1) := by decide +kernel
theorem dX5_readOutlines_13 : decode cX5_readOutlines 13 = .ok (.aload_n 0, 1) := by decide +kernel
theorem dX5_readOutlines_14 : decode cX5_readOutlines 14 = .ok (.getfield 14, 3) := by decide +kernel
theorem dX5_readOutlines_17 : decode cX5_readOutlines 17 = .ok (.iconst 0, 1) := by decide +kernel
theorem dX5_readOutlines_18 : decode cX5_readOutlines 18 = .ok (.iload_n 2, 1) := by decide +kernel
theorem dX5_readOutlines_19 : decode cX5_readOutlines 19 = .ok (.invokespecial 51, 3) := by decide +kernel
theorem dX5_readOutlines_22 : decode cX5_readOutlines 22 = .ok (.astore_n 3, 1) := by decide +kernel
theorem dX5_readOutlines_23 : decode cX5_readOutlines 23 = .ok (.aload_n 3, 1) := by decide +kernel
theorem dX5_readOutlines_24 : decode cX5_readOutlines 24 = .ok (.aload_n 1, 1) := by decide +kernel
theorem dX5_readOutlines_25 : decode cX5_readOutlines 25 = .ok (.invokestatic 136, 3) := by decide +kernel
theorem dX5_readOutlines_28 : decode cX5_readOutlines 28 = .ok (.ifCond .ne 5, 3) := by decide +kernel
theorem dX5_readOutlines_31 : decode cX5_readOutlines 31 = .ok (.iconst 0, 1) := by decide +kernel
theorem dX5_readOutlines_32 : decode cX5_readOutlines 32 = .ok (.ireturn, 1) := by decide +kernel
theorem dX5_readOutlines_33 : decode cX5_readOutlines 33 = .ok (.iconst 0, 1) := by decide +kernel
theorem dX5_readOutlines_34 : decode cX5_readOutlines 34 = .ok (.istore 4, 2) := by decide +kernel
theorem dX5_readOutlines_36 : decode cX5_readOutlines 36 = .ok (.iconst 0, 1) := by decide +kernel
theorem dX5_readOutlines_37 : decode cX5_readOutlines 37 = .ok (.istore 5, 2) := by decide +kernel
theorem dX5_readOutlines_39 : decode cX5_readOutlines 39 = .ok (.iload 5, 2) := by decide +kernel
theorem dX5_readOutlines_41 : decode cX5_readOutlines 41 = .ok (.aload_n 1, 1) := by decide +kernel
theorem dX5_readOutlines_42 : decode cX5_readOutlines 42 = .ok (.invokevirtual 140, 3) := by decide +kernel
theorem dX5_readOutlines_45 : decode cX5_readOutlines 45 = .ok (.if_icmp .ge 38, 3) := by decide +kernel
theorem dX5_readOutlines_48 : decode cX5_readOutlines 48 = .ok (.aload_n 3, 1) := by decide +kernel
theorem dX5_readOutlines_49 : decode cX5_readOutlines 49 = .ok (.aload_n 1, 1) := by decide +kernel
theorem dX5_readOutlines_50 : decode cX5_readOutlines 50 = .ok (.iload 5, 2) := by decide +kernel
theorem dX5_readOutlines_52 : decode cX5_readOutlines 52 = .ok (.invokevirtual 143, 3) := by decide +kernel
theorem dX5_readOutlines_55 : decode cX5_readOutlines 55 = .ok (.invokestatic 147, 3) := by decide +kernel
theorem dX5_readOutlines_58 : decode cX5_readOutlines 58 = .ok (.ifCond .ne 5, 3) := by decide +kernel
theorem dX5_readOutlines_61 : decode cX5_readOutlines 61 = .ok (.iconst 0, 1) := by decide +kernel
theorem dX5_readOutlines_62 : decode cX5_readOutlines 62 = .ok (.ireturn, 1) := by decide +kernel
theorem dX5_readOutlines_63 : decode cX5_readOutlines 63 = .ok (.iload 4, 2) := by decide +kernel
theorem dX5_readOutlines_65 : decode cX5_readOutlines 65 = .ok (.aload_n 1, 1) := by decide +kernel
theorem dX5_readOutlines_66 : decode cX5_readOutlines 66 = .ok (.iload 5, 2) := by decide +kernel
theorem dX5_readOutlines_68 : decode cX5_readOutlines 68 = .ok (.invokevirtual 143, 3) := by decide +kernel
theorem dX5_readOutlines_71 : decode cX5_readOutlines 71 = .ok (.invokevirtual 151, 3) := by decide +kernel
theorem dX5_readOutlines_74 : decode cX5_readOutlines 74 = .ok (.iadd, 1) := by decide +kernel
theorem dX5_readOutlines_75 : decode cX5_readOutlines 75 = .ok (.istore 4, 2) := by decide +kernel
theorem dX5_readOutlines_77 : decode cX5_readOutlines 77 = .ok (.iinc 5 1, 3) := by decide +kernel
theorem dX5_readOutlines_80 : decode cX5_readOutlines 80 = .ok (.goto (-41), 3) := by decide +kernel
theorem dX5_readOutlines_83 : decode cX5_readOutlines 83 = .ok (.aload_n 3, 1) := by decide +kernel
theorem dX5_readOutlines_84 : decode cX5_readOutlines 84 = .ok (.invokevirtual 60, 3) := by decide +kernel
theorem dX5_readOutlines_87 : decode cX5_readOutlines 87 = .ok (.iload 4, 2) := by decide +kernel
theorem dX5_readOutlines_89 : decode cX5_readOutlines 89 = .ok (.iadd, 1) := by decide +kernel
theorem dX5_readOutlines_90 : decode cX5_readOutlines 90 = .ok (.istore 5, 2) := by decide +kernel
theorem dX5_readOutlines_92 : decode cX5_readOutlines 92 = .ok (.iload 5, 2) := by decide +kernel
theorem dX5_readOutlines_94 : decode cX5_readOutlines 94 = .ok (.iload_n 2, 1) := by decide +kernel
theorem dX5_readOutlines_95 : decode cX5_readOutlines 95 = .ok (.if_icmp .le 5, 3) := by decide +kernel
theorem dX5_readOutlines_98 : decode cX5_readOutlines 98 = .ok (.iconst 0, 1) := by decide +kernel
theorem dX5_readOutlines_99 : decode cX5_readOutlines 99 = .ok (.ireturn, 1) := by decide +kernel
theorem dX5_readOutlines_100 : decode cX5_readOutlines 100 = .ok (.new 45, 3) := by decide +kernel
theorem dX5_readOutlines_103 : decode cX5_readOutlines 103 = .ok (.dup, 1) := by decide +kernel
theorem dX5_readOutlines_104 : decode cX5_readOutlines 104 = .ok (.aload_n 0, 1) := by decide +kernel
theorem dX5_readOutlines_105 : decode cX5_readOutlines 105 = .ok (.getfield 14, 3) := by decide +kernel
theorem dX5_readOutlines_108 : decode cX5_readOutlines 108 = .ok (.aload_n 3, 1) := by decide +kernel
theorem dX5_readOutlines_109 : decode cX5_readOutlines 109 = .ok (.invokevirtual 60, 3) := by decide +kernel
theorem dX5_readOutlines_112 : decode cX5_readOutlines 112 = .ok (.iload 5, 2) := by decide +kernel
theorem dX5_readOutlines_114 : decode cX5_readOutlines 114 = .ok (.invokespecial 51, 3) := by decide +kernel
theorem dX5_readOutlines_117 : decode cX5_readOutlines 117 = .ok (.astore 6, 2) := by decide +kernel
theorem dX5_readOutlines_119 : decode cX5_readOutlines 119 = .ok (.new 45, 3) := by decide +kernel
theorem dX5_readOutlines_122 : decode cX5_readOutlines 122 = .ok (.dup, 1) := by decide +kernel
theorem dX5_readOutlines_123 : decode cX5_readOutlines 123 = .ok (.aload_n 0, 1) := by decide +kernel
theorem dX5_readOutlines_124 : decode cX5_readOutlines 124 = .ok (.getfield 14, 3) := by decide +kernel
theorem dX5_readOutlines_127 : decode cX5_readOutlines 127 = .ok (.iload 5, 2) := by decide +kernel
theorem dX5_readOutlines_129 : decode cX5_readOutlines 129 = .ok (.iload_n 2, 1) := by decide +kernel
theorem dX5_readOutlines_130 : decode cX5_readOutlines 130 = .ok (.invokespecial 51, 3) := by decide +kernel
theorem dX5_readOutlines_133 : decode cX5_readOutlines 133 = .ok (.astore 7, 2) := by decide +kernel
theorem dX5_readOutlines_135 : decode cX5_readOutlines 135 = .ok (.iconst 0, 1) := by decide +kernel
theorem dX5_readOutlines_136 : decode cX5_readOutlines 136 = .ok (.istore 8, 2) := by decide +kernel
theorem dX5_readOutlines_138 : decode cX5_readOutlines 138 = .ok (.iload 8, 2) := by decide +kernel
theorem dX5_readOutlines_140 : decode cX5_readOutlines 140 = .ok (.aload_n 1, 1) := by decide +kernel
theorem dX5_readOutlines_141 : decode cX5_readOutlines 141 = .ok (.invokevirtual 140, 3) := by decide +kernel
theorem dX5_readOutlines_144 : decode cX5_readOutlines 144 = .ok (.if_icmp .ge 28, 3) := by decide +kernel
theorem dX5_readOutlines_147 : decode cX5_readOutlines 147 = .ok (.aload_n 0, 1) := by decide +kernel
theorem dX5_readOutlines_148 : decode cX5_readOutlines 148 = .ok (.aload_n 1, 1) := by decide +kernel
theorem dX5_readOutlines_149 : decode cX5_readOutlines 149 = .ok (.iload 8, 2) := by decide +kernel
theorem dX5_readOutlines_151 : decode cX5_readOutlines 151 = .ok (.invokevirtual 143, 3) := by decide +kernel
theorem dX5_readOutlines_154 : decode cX5_readOutlines 154 = .ok (.aload 6, 2) := by decide +kernel
theorem dX5_readOutlines_156 : decode cX5_readOutlines 156 = .ok (.aload 7, 2) := by decide +kernel
theorem dX5_readOutlines_158 : decode cX5_readOutlines 158 = .ok (.invokevirtual 156, 3) := by decide +kernel
theorem dX5_readOutlines_161 : decode cX5_readOutlines 161 = .ok (.ifCond .ne 5, 3) := by decide +kernel
theorem dX5_readOutlines_164 : decode cX5_readOutlines 164 = .ok (.iconst 0, 1) := by decide +kernel
theorem dX5_readOutlines_165 : decode cX5_readOutlines 165 = .ok (.ireturn, 1) := by decide +kernel
theorem dX5_readOutlines_166 : decode cX5_readOutlines 166 = .ok (.iinc 8 1, 3) := by decide +kernel
theorem dX5_readOutlines_169 : decode cX5_readOutlines 169 = .ok (.goto (-31), 3) := by decide +kernel
theorem dX5_readOutlines_172 : decode cX5_readOutlines 172 = .ok (.aload 7, 2) := by decide +kernel
theorem dX5_readOutlines_174 : decode cX5_readOutlines 174 = .ok (.invokevirtual 160, 3) := by decide +kernel
theorem dX5_readOutlines_177 : decode cX5_readOutlines 177 = .ok (.ireturn, 1) := by decide +kernel
theorem dX5_readContours_0 : decode cX5_readContours 0 = .ok (.aload_n 0, 1) := by decide +kernel
theorem dX5_readContours_1 : decode cX5_readContours 1 = .ok (.invokevirtual 94, 3) := by decide +kernel
theorem dX5_readContours_4 : decode cX5_readContours 4 = .ok (.istore_n 2, 1) := by decide +kernel
theorem dX5_readContours_5 : decode cX5_readContours 5 = .ok (.iload_n 2, 1) := by decide +kernel
theorem dX5_readContours_6 : decode cX5_readContours 6 = .ok (.iconst 1, 1) := by decide +kernel
theorem dX5_readContours_7 : decode cX5_readContours 7 = .ok (.if_icmp .lt 9, 3) := by decide +kernel
theorem dX5_readContours_10 : decode cX5_readContours 10 = .ok (.iload_n 2, 1) := by decide +kernel
theorem dX5_readContours_11 : decode cX5_readContours 11 = .ok (.bipush 6, 2) := by decide +kernel
theorem dX5_readContours_13 : decode cX5_readContours 13 = .ok (.if_icmp .le 5, 3) := by decide +kernel
theorem dX5_readContours_16 : decode cX5_readContours 16 = .ok (.iconst 0, 1) := by decide +kernel
theorem dX5_readContours_17 : decode cX5_readContours 17 = .ok (.ireturn, 1) := by decide +kernel
theorem dX5_readContours_18 : decode cX5_readContours 18 = .ok (.iconst 0, 1) := by decide +kernel
theorem dX5_readContours_19 : decode cX5_readContours 19 = .ok (.istore_n 3, 1) := by decide +kernel
theorem dX5_readContours_20 : decode cX5_readContours 20 = .ok (.iload_n 3, 1) := by decide +kernel
theorem dX5_readContours_21 : decode cX5_readContours 21 = .ok (.iload_n 2, 1) := by decide +kernel
theorem dX5_readContours_22 : decode cX5_readContours 22 = .ok (.if_icmp .ge 63, 3) := by decide +kernel
theorem dX5_readContours_25 : decode cX5_readContours 25 = .ok (.aload_n 0, 1) := by decide +kernel
theorem dX5_readContours_26 : decode cX5_readContours 26 = .ok (.invokevirtual 94, 3) := by decide +kernel
theorem dX5_readContours_29 : decode cX5_readContours 29 = .ok (.istore 4, 2) := by decide +kernel
theorem dX5_readContours_31 : decode cX5_readContours 31 = .ok (.aload_n 0, 1) := by decide +kernel
theorem dX5_readContours_32 : decode cX5_readContours 32 = .ok (.invokevirtual 104, 3) := by decide +kernel
theorem dX5_readContours_35 : decode cX5_readContours 35 = .ok (.ifCond .ne 9, 3) := by decide +kernel
theorem dX5_readContours_38 : decode cX5_readContours 38 = .ok (.iload 4, 2) := by decide +kernel
theorem dX5_readContours_40 : decode cX5_readContours 40 = .ok (.iconst 4, 1) := by decide +kernel
theorem dX5_readContours_41 : decode cX5_readContours 41 = .ok (.if_icmp .le 5, 3) := by decide +kernel
theorem dX5_readContours_44 : decode cX5_readContours 44 = .ok (.iconst 0, 1) := by decide +kernel
theorem dX5_readContours_45 : decode cX5_readContours 45 = .ok (.ireturn, 1) := by decide +kernel
theorem dX5_readContours_46 : decode cX5_readContours 46 = .ok (.aload_n 1, 1) := by decide +kernel
theorem dX5_readContours_47 : decode cX5_readContours 47 = .ok (.aload_n 1, 1) := by decide +kernel
theorem dX5_readContours_48 : decode cX5_readContours 48 = .ok (.iconst 0, 1) := by decide +kernel
theorem dX5_readContours_49 : decode cX5_readContours 49 = .ok (.invokevirtual 163, 3) := by decide +kernel
theorem dX5_readContours_52 : decode cX5_readContours 52 = .ok (.invokevirtual 143, 3) := by decide +kernel
theorem dX5_readContours_55 : decode cX5_readContours 55 = .ok (.astore 5, 2) := by decide +kernel
theorem dX5_readContours_57 : decode cX5_readContours 57 = .ok (.iconst 0, 1) := by decide +kernel
theorem dX5_readContours_58 : decode cX5_readContours 58 = .ok (.istore 6, 2) := by decide +kernel
theorem dX5_readContours_60 : decode cX5_readContours 60 = .ok (.iload 6, 2) := by decide +kernel
theorem dX5_readContours_62 : decode cX5_readContours 62 = .ok (.iload 4, 2) := by decide +kernel
theorem dX5_readContours_64 : decode cX5_readContours 64 = .ok (.if_icmp .ge 15, 3) := by decide +kernel
theorem dX5_readContours_67 : decode cX5_readContours 67 = .ok (.aload 5, 2) := by decide +kernel
theorem dX5_readContours_69 : decode cX5_readContours 69 = .ok (.invokevirtual 166, 3) := by decide +kernel
theorem dX5_readContours_72 : decode cX5_readContours 72 = .ok (.pop, 1) := by decide +kernel
theorem dX5_readContours_73 : decode cX5_readContours 73 = .ok (.iinc 6 1, 3) := by decide +kernel
theorem dX5_readContours_76 : decode cX5_readContours 76 = .ok (.goto (-16), 3) := by decide +kernel
theorem dX5_readContours_79 : decode cX5_readContours 79 = .ok (.iinc 3 1, 3) := by decide +kernel
theorem dX5_readContours_82 : decode cX5_readContours 82 = .ok (.goto (-62), 3) := by decide +kernel
theorem dX5_readContours_85 : decode cX5_readContours 85 = .ok (.iconst 1, 1) := by decide +kernel
theorem dX5_readContours_86 : decode cX5_readContours 86 = .ok (.ireturn, 1) := by decide +kernel
theorem dX5_readSizes_0 : decode cX5_readSizes 0 = .ok (.iconst 0, 1) := by decide +kernel
theorem dX5_readSizes_1 : decode cX5_readSizes 1 = .ok (.istore_n 2, 1) := by decide +kernel
theorem dX5_readSizes_2 : decode cX5_readSizes 2 = .ok (.iload_n 2, 1) := by decide +kernel
theorem dX5_readSizes_3 : decode cX5_readSizes 3 = .ok (.aload_n 1, 1) := by decide +kernel
theorem dX5_readSizes_4 : decode cX5_readSizes 4 = .ok (.invokevirtual 169, 3) := by decide +kernel
theorem dX5_readSizes_7 : decode cX5_readSizes 7 = .ok (.if_icmp .ge 45, 3) := by decide +kernel
theorem dX5_readSizes_10 : decode cX5_readSizes 10 = .ok (.aload_n 0, 1) := by decide +kernel
theorem dX5_readSizes_11 : decode cX5_readSizes 11 = .ok (.invokevirtual 172, 3) := by decide +kernel
theorem dX5_readSizes_14 : decode cX5_readSizes 14 = .ok (.istore_n 3, 1) := by decide +kernel
theorem dX5_readSizes_15 : decode cX5_readSizes 15 = .ok (.aload_n 0, 1) := by decide +kernel
theorem dX5_readSizes_16 : decode cX5_readSizes 16 = .ok (.invokevirtual 104, 3) := by decide +kernel
theorem dX5_readSizes_19 : decode cX5_readSizes 19 = .ok (.ifCond .ne 19, 3) := by decide +kernel
theorem dX5_readSizes_22 : decode cX5_readSizes 22 = .ok (.iload_n 3, 1) := by decide +kernel
theorem dX5_readSizes_23 : decode cX5_readSizes 23 = .ok (.iconst 1, 1) := by decide +kernel
theorem dX5_readSizes_24 : decode cX5_readSizes 24 = .ok (.if_icmp .lt 14, 3) := by decide +kernel
theorem dX5_readSizes_27 : decode cX5_readSizes 27 = .ok (.iload_n 3, 1) := by decide +kernel
theorem dX5_readSizes_28 : decode cX5_readSizes 28 = .ok (.bipush 16, 2) := by decide +kernel
