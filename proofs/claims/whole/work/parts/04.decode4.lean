theorem dX11_plain_285 : decode cX11_plain 285 = .ok (.ireturn, 1) := by decide +kernel
theorem dX11_next_0 : decode cX11_next 0 = .ok (.aload_n 0, 1) := by decide +kernel
theorem dX11_next_1 : decode cX11_next 1 = .ok (.getfield 203, 3) := by decide +kernel
theorem dX11_next_4 : decode cX11_next 4 = .ok (.aload_n 0, 1) := by decide +kernel
theorem dX11_next_5 : decode cX11_next 5 = .ok (.getfield 206, 3) := by decide +kernel
theorem dX11_next_8 : decode cX11_next 8 = .ok (.if_icmp .ge 10, 3) := by decide +kernel
theorem dX11_next_11 : decode cX11_next 11 = .ok (.aload_n 0, 1) := by decide +kernel
theorem dX11_next_12 : decode cX11_next 12 = .ok (.getfield 209, 3) := by decide +kernel
theorem dX11_next_15 : decode cX11_next 15 = .ok (.ifCond .eq 10, 3) := by decide +kernel
theorem dX11_next_18 : decode cX11_next 18 = .ok (.aload_n 0, 1) := by decide +kernel
theorem dX11_next_19 : decode cX11_next 19 = .ok (.iconst 1, 1) := by decide +kernel
theorem dX11_next_20 : decode cX11_next 20 = .ok (.putfield 209, 3) := by decide +kernel
theorem dX11_next_23 : decode cX11_next 23 = .ok (.iconst 0, 1) := by decide +kernel
theorem dX11_next_24 : decode cX11_next 24 = .ok (.ireturn, 1) := by decide +kernel
theorem dX11_next_25 : decode cX11_next 25 = .ok (.aload_n 0, 1) := by decide +kernel
theorem dX11_next_26 : decode cX11_next 26 = .ok (.dup, 1) := by decide +kernel
theorem dX11_next_27 : decode cX11_next 27 = .ok (.getfield 203, 3) := by decide +kernel
theorem dX11_next_30 : decode cX11_next 30 = .ok (.iconst 1, 1) := by decide +kernel
theorem dX11_next_31 : decode cX11_next 31 = .ok (.iadd, 1) := by decide +kernel
theorem dX11_next_32 : decode cX11_next 32 = .ok (.putfield 203, 3) := by decide +kernel
theorem dX11_next_35 : decode cX11_next 35 = .ok (.aload_n 0, 1) := by decide +kernel
theorem dX11_next_36 : decode cX11_next 36 = .ok (.getfield 213, 3) := by decide +kernel
theorem dX11_next_39 : decode cX11_next 39 = .ok (.ifCond .eq 17, 3) := by decide +kernel
theorem dX11_next_42 : decode cX11_next 42 = .ok (.aload_n 0, 1) := by decide +kernel
theorem dX11_next_43 : decode cX11_next 43 = .ok (.getfield 71, 3) := by decide +kernel
theorem dX11_next_46 : decode cX11_next 46 = .ok (.aload_n 0, 1) := by decide +kernel
theorem dX11_next_47 : decode cX11_next 47 = .ok (.getfield 203, 3) := by decide +kernel
theorem dX11_next_50 : decode cX11_next 50 = .ok (.iconst 1, 1) := by decide +kernel
theorem dX11_next_51 : decode cX11_next 51 = .ok (.isub, 1) := by decide +kernel
theorem dX11_next_52 : decode cX11_next 52 = .ok (.iaload, 1) := by decide +kernel
theorem dX11_next_53 : decode cX11_next 53 = .ok (.goto 14, 3) := by decide +kernel
theorem dX11_next_56 : decode cX11_next 56 = .ok (.aload_n 0, 1) := by decide +kernel
theorem dX11_next_57 : decode cX11_next 57 = .ok (.getfield 68, 3) := by decide +kernel
theorem dX11_next_60 : decode cX11_next 60 = .ok (.aload_n 0, 1) := by decide +kernel
theorem dX11_next_61 : decode cX11_next 61 = .ok (.getfield 203, 3) := by decide +kernel
theorem dX11_next_64 : decode cX11_next 64 = .ok (.iconst 1, 1) := by decide +kernel
theorem dX11_next_65 : decode cX11_next 65 = .ok (.isub, 1) := by decide +kernel
theorem dX11_next_66 : decode cX11_next 66 = .ok (.iaload, 1) := by decide +kernel
theorem dX11_next_67 : decode cX11_next 67 = .ok (.ireturn, 1) := by decide +kernel
theorem dX11_check_0 : decode cX11_check 0 = .ok (.aload_n 0, 1) := by decide +kernel
theorem dX11_check_1 : decode cX11_check 1 = .ok (.aload_n 0, 1) := by decide +kernel
theorem dX11_check_2 : decode cX11_check 2 = .ok (.getfield 209, 3) := by decide +kernel
theorem dX11_check_5 : decode cX11_check 5 = .ok (.ifCond .ne 7, 3) := by decide +kernel
theorem dX11_check_8 : decode cX11_check 8 = .ok (.iload_n 1, 1) := by decide +kernel
theorem dX11_check_9 : decode cX11_check 9 = .ok (.ifCond .ne 7, 3) := by decide +kernel
theorem dX11_check_12 : decode cX11_check 12 = .ok (.iconst 1, 1) := by decide +kernel
theorem dX11_check_13 : decode cX11_check 13 = .ok (.goto 4, 3) := by decide +kernel
theorem dX11_check_16 : decode cX11_check 16 = .ok (.iconst 0, 1) := by decide +kernel
theorem dX11_check_17 : decode cX11_check 17 = .ok (.putfield 209, 3) := by decide +kernel
theorem dX11_check_20 : decode cX11_check 20 = .ok (.return_, 1) := by decide +kernel
theorem dX11_nextShort_0 : decode cX11_nextShort 0 = .ok (.aload_n 0, 1) := by decide +kernel
theorem dX11_nextShort_1 : decode cX11_nextShort 1 = .ok (.invokevirtual 216, 3) := by decide +kernel
theorem dX11_nextShort_4 : decode cX11_nextShort 4 = .ok (.istore_n 1, 1) := by decide +kernel
theorem dX11_nextShort_5 : decode cX11_nextShort 5 = .ok (.iload_n 1, 1) := by decide +kernel
theorem dX11_nextShort_6 : decode cX11_nextShort 6 = .ok (.sipush 253, 3) := by decide +kernel
theorem dX11_nextShort_9 : decode cX11_nextShort 9 = .ok (.if_icmp .ge 5, 3) := by decide +kernel
theorem dX11_nextShort_12 : decode cX11_nextShort 12 = .ok (.iload_n 1, 1) := by decide +kernel
theorem dX11_nextShort_13 : decode cX11_nextShort 13 = .ok (.ireturn, 1) := by decide +kernel
theorem dX11_nextShort_14 : decode cX11_nextShort 14 = .ok (.aload_n 0, 1) := by decide +kernel
theorem dX11_nextShort_15 : decode cX11_nextShort 15 = .ok (.invokevirtual 216, 3) := by decide +kernel
theorem dX11_nextShort_18 : decode cX11_nextShort 18 = .ok (.istore_n 2, 1) := by decide +kernel
theorem dX11_nextShort_19 : decode cX11_nextShort 19 = .ok (.iload_n 1, 1) := by decide +kernel
theorem dX11_nextShort_20 : decode cX11_nextShort 20 = .ok (.sipush 253, 3) := by decide +kernel
theorem dX11_nextShort_23 : decode cX11_nextShort 23 = .ok (.if_icmp .ne 16, 3) := by decide +kernel
theorem dX11_nextShort_26 : decode cX11_nextShort 26 = .ok (.sipush 256, 3) := by decide +kernel
theorem dX11_nextShort_29 : decode cX11_nextShort 29 = .ok (.iload_n 2, 1) := by decide +kernel
theorem dX11_nextShort_30 : decode cX11_nextShort 30 = .ok (.imul, 1) := by decide +kernel
theorem dX11_nextShort_31 : decode cX11_nextShort 31 = .ok (.aload_n 0, 1) := by decide +kernel
theorem dX11_nextShort_32 : decode cX11_nextShort 32 = .ok (.invokevirtual 216, 3) := by decide +kernel
theorem dX11_nextShort_35 : decode cX11_nextShort 35 = .ok (.iadd, 1) := by decide +kernel
theorem dX11_nextShort_36 : decode cX11_nextShort 36 = .ok (.goto 23, 3) := by decide +kernel
theorem dX11_nextShort_39 : decode cX11_nextShort 39 = .ok (.iload_n 1, 1) := by decide +kernel
theorem dX11_nextShort_40 : decode cX11_nextShort 40 = .ok (.sipush 254, 3) := by decide +kernel
theorem dX11_nextShort_43 : decode cX11_nextShort 43 = .ok (.if_icmp .ne 11, 3) := by decide +kernel
theorem dX11_nextShort_46 : decode cX11_nextShort 46 = .ok (.sipush 506, 3) := by decide +kernel
theorem dX11_nextShort_49 : decode cX11_nextShort 49 = .ok (.iload_n 2, 1) := by decide +kernel
theorem dX11_nextShort_50 : decode cX11_nextShort 50 = .ok (.iadd, 1) := by decide +kernel
theorem dX11_nextShort_51 : decode cX11_nextShort 51 = .ok (.goto 8, 3) := by decide +kernel
theorem dX11_nextShort_54 : decode cX11_nextShort 54 = .ok (.sipush 253, 3) := by decide +kernel
theorem dX11_nextShort_57 : decode cX11_nextShort 57 = .ok (.iload_n 2, 1) := by decide +kernel
theorem dX11_nextShort_58 : decode cX11_nextShort 58 = .ok (.iadd, 1) := by decide +kernel
theorem dX11_nextShort_59 : decode cX11_nextShort 59 = .ok (.ireturn, 1) := by decide +kernel
theorem dX11_nextLong_0 : decode cX11_nextLong 0 = .ok (.aload_n 0, 1) := by decide +kernel
theorem dX11_nextLong_1 : decode cX11_nextLong 1 = .ok (.invokevirtual 216, 3) := by decide +kernel
theorem dX11_nextLong_4 : decode cX11_nextLong 4 = .ok (.istore_n 1, 1) := by decide +kernel
theorem dX11_nextLong_5 : decode cX11_nextLong 5 = .ok (.aload_n 0, 1) := by decide +kernel
theorem dX11_nextLong_6 : decode cX11_nextLong 6 = .ok (.iload_n 1, 1) := by decide +kernel
theorem dX11_nextLong_7 : decode cX11_nextLong 7 = .ok (.sipush 128, 3) := by decide +kernel
theorem dX11_nextLong_10 : decode cX11_nextLong 10 = .ok (.if_icmp .eq 7, 3) := by decide +kernel
theorem dX11_nextLong_13 : decode cX11_nextLong 13 = .ok (.iconst 1, 1) := by decide +kernel
theorem dX11_nextLong_14 : decode cX11_nextLong 14 = .ok (.goto 4, 3) := by decide +kernel
theorem dX11_nextLong_17 : decode cX11_nextLong 17 = .ok (.iconst 0, 1) := by decide +kernel
theorem dX11_nextLong_18 : decode cX11_nextLong 18 = .ok (.invokevirtual 219, 3) := by decide +kernel
theorem dX11_nextLong_21 : decode cX11_nextLong 21 = .ok (.iload_n 1, 1) := by decide +kernel
theorem dX11_nextLong_22 : decode cX11_nextLong 22 = .ok (.sipush 128, 3) := by decide +kernel
theorem dX11_nextLong_25 : decode cX11_nextLong 25 = .ok (.irem, 1) := by decide +kernel
theorem dX11_nextLong_26 : decode cX11_nextLong 26 = .ok (.istore_n 2, 1) := by decide +kernel
theorem dX11_nextLong_27 : decode cX11_nextLong 27 = .ok (.iconst 1, 1) := by decide +kernel
theorem dX11_nextLong_28 : decode cX11_nextLong 28 = .ok (.istore_n 3, 1) := by decide +kernel
theorem dX11_nextLong_29 : decode cX11_nextLong 29 = .ok (.iload_n 3, 1) := by decide +kernel
theorem dX11_nextLong_30 : decode cX11_nextLong 30 = .ok (.iconst 3, 1) := by decide +kernel
theorem dX11_nextLong_31 : decode cX11_nextLong 31 = .ok (.if_icmp .ge 32, 3) := by decide +kernel
theorem dX11_nextLong_34 : decode cX11_nextLong 34 = .ok (.iload_n 1, 1) := by decide +kernel
theorem dX11_nextLong_35 : decode cX11_nextLong 35 = .ok (.bipush 127, 2) := by decide +kernel
theorem dX11_nextLong_37 : decode cX11_nextLong 37 = .ok (.if_icmp .le 26, 3) := by decide +kernel
theorem dX11_nextLong_40 : decode cX11_nextLong 40 = .ok (.aload_n 0, 1) := by decide +kernel
theorem dX11_nextLong_41 : decode cX11_nextLong 41 = .ok (.invokevirtual 216, 3) := by decide +kernel
theorem dX11_nextLong_44 : decode cX11_nextLong 44 = .ok (.istore_n 1, 1) := by decide +kernel
theorem dX11_nextLong_45 : decode cX11_nextLong 45 = .ok (.sipush 128, 3) := by decide +kernel
theorem dX11_nextLong_48 : decode cX11_nextLong 48 = .ok (.iload_n 2, 1) := by decide +kernel
theorem dX11_nextLong_49 : decode cX11_nextLong 49 = .ok (.imul, 1) := by decide +kernel
theorem dX11_nextLong_50 : decode cX11_nextLong 50 = .ok (.iload_n 1, 1) := by decide +kernel
theorem dX11_nextLong_51 : decode cX11_nextLong 51 = .ok (.sipush 128, 3) := by decide +kernel
theorem dX11_nextLong_54 : decode cX11_nextLong 54 = .ok (.irem, 1) := by decide +kernel
theorem dX11_nextLong_55 : decode cX11_nextLong 55 = .ok (.iadd, 1) := by decide +kernel
theorem dX11_nextLong_56 : decode cX11_nextLong 56 = .ok (.istore_n 2, 1) := by decide +kernel
theorem dX11_nextLong_57 : decode cX11_nextLong 57 = .ok (.iinc 3 1, 3) := by decide +kernel
theorem dX11_nextLong_60 : decode cX11_nextLong 60 = .ok (.goto (-31), 3) := by decide +kernel
theorem dX11_nextLong_63 : decode cX11_nextLong 63 = .ok (.aload_n 0, 1) := by decide +kernel
theorem dX11_nextLong_64 : decode cX11_nextLong 64 = .ok (.iload_n 1, 1) := by decide +kernel
theorem dX11_nextLong_65 : decode cX11_nextLong 65 = .ok (.sipush 128, 3) := by decide +kernel
theorem dX11_nextLong_68 : decode cX11_nextLong 68 = .ok (.if_icmp .ge 7, 3) := by decide +kernel
theorem dX11_nextLong_71 : decode cX11_nextLong 71 = .ok (.iconst 1, 1) := by decide +kernel
theorem dX11_nextLong_72 : decode cX11_nextLong 72 = .ok (.goto 4, 3) := by decide +kernel
theorem dX11_nextLong_75 : decode cX11_nextLong 75 = .ok (.iconst 0, 1) := by decide +kernel
theorem dX11_nextLong_76 : decode cX11_nextLong 76 = .ok (.invokevirtual 219, 3) := by decide +kernel
theorem dX11_nextLong_79 : decode cX11_nextLong 79 = .ok (.iload_n 2, 1) := by decide +kernel
theorem dX11_nextLong_80 : decode cX11_nextLong 80 = .ok (.ireturn, 1) := by decide +kernel
theorem dX11_head_0 : decode cX11_head 0 = .ok (.aload_n 0, 1) := by decide +kernel
theorem dX11_head_1 : decode cX11_head 1 = .ok (.iconst 0, 1) := by decide +kernel
theorem dX11_head_2 : decode cX11_head 2 = .ok (.putfield 203, 3) := by decide +kernel
theorem dX11_head_5 : decode cX11_head 5 = .ok (.aload_n 0, 1) := by decide +kernel
theorem dX11_head_6 : decode cX11_head 6 = .ok (.aload_n 0, 1) := by decide +kernel
theorem dX11_head_7 : decode cX11_head 7 = .ok (.getfield 137, 3) := by decide +kernel
theorem dX11_head_10 : decode cX11_head 10 = .ok (.putfield 206, 3) := by decide +kernel
theorem dX11_head_13 : decode cX11_head 13 = .ok (.aload_n 0, 1) := by decide +kernel
theorem dX11_head_14 : decode cX11_head 14 = .ok (.iconst 0, 1) := by decide +kernel
theorem dX11_head_15 : decode cX11_head 15 = .ok (.putfield 213, 3) := by decide +kernel
theorem dX11_head_18 : decode cX11_head 18 = .ok (.aload_n 0, 1) := by decide +kernel
theorem dX11_head_19 : decode cX11_head 19 = .ok (.aload_n 0, 1) := by decide +kernel
theorem dX11_head_20 : decode cX11_head 20 = .ok (.invokevirtual 216, 3) := by decide +kernel
theorem dX11_head_23 : decode cX11_head 23 = .ok (.bipush 119, 2) := by decide +kernel
theorem dX11_head_25 : decode cX11_head 25 = .ok (.if_icmp .ne 7, 3) := by decide +kernel
theorem dX11_head_28 : decode cX11_head 28 = .ok (.iconst 1, 1) := by decide +kernel
theorem dX11_head_29 : decode cX11_head 29 = .ok (.goto 4, 3) := by decide +kernel
theorem dX11_head_32 : decode cX11_head 32 = .ok (.iconst 0, 1) := by decide +kernel
theorem dX11_head_33 : decode cX11_head 33 = .ok (.invokevirtual 219, 3) := by decide +kernel
theorem dX11_head_36 : decode cX11_head 36 = .ok (.aload_n 0, 1) := by decide +kernel
theorem dX11_head_37 : decode cX11_head 37 = .ok (.aload_n 0, 1) := by decide +kernel
theorem dX11_head_38 : decode cX11_head 38 = .ok (.invokevirtual 216, 3) := by decide +kernel
theorem dX11_head_41 : decode cX11_head 41 = .ok (.bipush 50, 2) := by decide +kernel
theorem dX11_head_43 : decode cX11_head 43 = .ok (.if_icmp .ne 7, 3) := by decide +kernel
theorem dX11_head_46 : decode cX11_head 46 = .ok (.iconst 1, 1) := by decide +kernel
theorem dX11_head_47 : decode cX11_head 47 = .ok (.goto 4, 3) := by decide +kernel
theorem dX11_head_50 : decode cX11_head 50 = .ok (.iconst 0, 1) := by decide +kernel
theorem dX11_head_51 : decode cX11_head 51 = .ok (.invokevirtual 219, 3) := by decide +kernel
theorem dX11_head_54 : decode cX11_head 54 = .ok (.aload_n 0, 1) := by decide +kernel
theorem dX11_head_55 : decode cX11_head 55 = .ok (.invokevirtual 216, 3) := by decide +kernel
theorem dX11_head_58 : decode cX11_head 58 = .ok (.istore_n 1, 1) := by decide +kernel
theorem dX11_head_59 : decode cX11_head 59 = .ok (.aload_n 0, 1) := by decide +kernel
theorem dX11_head_60 : decode cX11_head 60 = .ok (.iload_n 1, 1) := by decide +kernel
theorem dX11_head_61 : decode cX11_head 61 = .ok (.bipush 7, 2) := by decide +kernel
theorem dX11_head_63 : decode cX11_head 63 = .ok (.if_icmp .gt 7, 3) := by decide +kernel
theorem dX11_head_66 : decode cX11_head 66 = .ok (.iconst 1, 1) := by decide +kernel
theorem dX11_head_67 : decode cX11_head 67 = .ok (.goto 4, 3) := by decide +kernel
theorem dX11_head_70 : decode cX11_head 70 = .ok (.iconst 0, 1) := by decide +kernel
theorem dX11_head_71 : decode cX11_head 71 = .ok (.invokevirtual 219, 3) := by decide +kernel
theorem dX11_head_74 : decode cX11_head 74 = .ok (.iconst 0, 1) := by decide +kernel
theorem dX11_head_75 : decode cX11_head 75 = .ok (.istore_n 2, 1) := by decide +kernel
theorem dX11_head_76 : decode cX11_head 76 = .ok (.iload_n 2, 1) := by decide +kernel
theorem dX11_head_77 : decode cX11_head 77 = .ok (.bipush 7, 2) := by decide +kernel
theorem dX11_head_79 : decode cX11_head 79 = .ok (.if_icmp .ge 23, 3) := by decide +kernel
theorem dX11_head_82 : decode cX11_head 82 = .ok (.aload_n 0, 1) := by decide +kernel
theorem dX11_head_83 : decode cX11_head 83 = .ok (.getfield 77, 3) := by decide +kernel
theorem dX11_head_86 : decode cX11_head 86 = .ok (.iload_n 2, 1) := by decide +kernel
theorem dX11_head_87 : decode cX11_head 87 = .ok (.iconst (-1), 1) := by decide +kernel
theorem dX11_head_88 : decode cX11_head 88 = .ok (.iastore, 1) := by decide +kernel
theorem dX11_head_89 : decode cX11_head 89 = .ok (.aload_n 0, 1) := by decide +kernel
theorem dX11_head_90 : decode cX11_head 90 = .ok (.getfield 80, 3) := by decide +kernel
theorem dX11_head_93 : decode cX11_head 93 = .ok (.iload_n 2, 1) := by decide +kernel
theorem dX11_head_94 : decode cX11_head 94 = .ok (.iconst 0, 1) := by decide +kernel
theorem dX11_head_95 : decode cX11_head 95 = .ok (.iastore, 1) := by decide +kernel
theorem dX11_head_96 : decode cX11_head 96 = .ok (.iinc 2 1, 3) := by decide +kernel
theorem dX11_head_99 : decode cX11_head 99 = .ok (.goto (-23), 3) := by decide +kernel
theorem dX11_head_102 : decode cX11_head 102 = .ok (.iconst (-1), 1) := by decide +kernel
theorem dX11_head_103 : decode cX11_head 103 = .ok (.istore_n 2, 1) := by decide +kernel
theorem dX11_head_104 : decode cX11_head 104 = .ok (.iconst 0, 1) := by decide +kernel
theorem dX11_head_105 : decode cX11_head 105 = .ok (.istore_n 3, 1) := by decide +kernel
theorem dX11_head_106 : decode cX11_head 106 = .ok (.iconst 0, 1) := by decide +kernel
theorem dX11_head_107 : decode cX11_head 107 = .ok (.istore 4, 2) := by decide +kernel
theorem dX11_head_109 : decode cX11_head 109 = .ok (.iload 4, 2) := by decide +kernel
theorem dX11_head_111 : decode cX11_head 111 = .ok (.iload_n 1, 1) := by decide +kernel
theorem dX11_head_112 : decode cX11_head 112 = .ok (.if_icmp .ge 187, 3) := by decide +kernel
theorem dX11_head_115 : decode cX11_head 115 = .ok (.aload_n 0, 1) := by decide +kernel
theorem dX11_head_116 : decode cX11_head 116 = .ok (.getfield 209, 3) := by decide +kernel
theorem dX11_head_119 : decode cX11_head 119 = .ok (.ifCond .ne 180, 3) := by decide +kernel
theorem dX11_head_122 : decode cX11_head 122 = .ok (.aload_n 0, 1) := by decide +kernel
theorem dX11_head_123 : decode cX11_head 123 = .ok (.invokevirtual 216, 3) := by decide +kernel
theorem dX11_head_126 : decode cX11_head 126 = .ok (.istore 5, 2) := by decide +kernel
theorem dX11_head_128 : decode cX11_head 128 = .ok (.iload 5, 2) := by decide +kernel
theorem dX11_head_130 : decode cX11_head 130 = .ok (.bipush 64, 2) := by decide +kernel
theorem dX11_head_132 : decode cX11_head 132 = .ok (.if_icmp .lt 11, 3) := by decide +kernel
theorem dX11_head_135 : decode cX11_head 135 = .ok (.iload 5, 2) := by decide +kernel
theorem dX11_head_137 : decode cX11_head 137 = .ok (.bipush 64, 2) := by decide +kernel
theorem dX11_head_139 : decode cX11_head 139 = .ok (.isub, 1) := by decide +kernel
theorem dX11_head_140 : decode cX11_head 140 = .ok (.goto 5, 3) := by decide +kernel
theorem dX11_head_143 : decode cX11_head 143 = .ok (.iload 5, 2) := by decide +kernel
theorem dX11_head_145 : decode cX11_head 145 = .ok (.istore 6, 2) := by decide +kernel
theorem dX11_head_147 : decode cX11_head 147 = .ok (.aload_n 0, 1) := by decide +kernel
theorem dX11_head_148 : decode cX11_head 148 = .ok (.iload 6, 2) := by decide +kernel
theorem dX11_head_150 : decode cX11_head 150 = .ok (.iload_n 2, 1) := by decide +kernel
theorem dX11_head_151 : decode cX11_head 151 = .ok (.if_icmp .le 40, 3) := by decide +kernel
theorem dX11_head_154 : decode cX11_head 154 = .ok (.iload 6, 2) := by decide +kernel
theorem dX11_head_156 : decode cX11_head 156 = .ok (.bipush 6, 2) := by decide +kernel
theorem dX11_head_158 : decode cX11_head 158 = .ok (.if_icmp .gt 33, 3) := by decide +kernel
theorem dX11_head_161 : decode cX11_head 161 = .ok (.iload 5, 2) := by decide +kernel
theorem dX11_head_163 : decode cX11_head 163 = .ok (.bipush 64, 2) := by decide +kernel
theorem dX11_head_165 : decode cX11_head 165 = .ok (.if_icmp .lt 7, 3) := by decide +kernel
theorem dX11_head_168 : decode cX11_head 168 = .ok (.iconst 1, 1) := by decide +kernel
theorem dX11_head_169 : decode cX11_head 169 = .ok (.goto 4, 3) := by decide +kernel
theorem dX11_head_172 : decode cX11_head 172 = .ok (.iconst 0, 1) := by decide +kernel
theorem dX11_head_173 : decode cX11_head 173 = .ok (.iload 6, 2) := by decide +kernel
theorem dX11_head_175 : decode cX11_head 175 = .ok (.iconst 2, 1) := by decide +kernel
theorem dX11_head_176 : decode cX11_head 176 = .ok (.if_icmp .ge 7, 3) := by decide +kernel
theorem dX11_head_179 : decode cX11_head 179 = .ok (.iconst 1, 1) := by decide +kernel
theorem dX11_head_180 : decode cX11_head 180 = .ok (.goto 4, 3) := by decide +kernel
theorem dX11_head_183 : decode cX11_head 183 = .ok (.iconst 0, 1) := by decide +kernel
theorem dX11_head_184 : decode cX11_head 184 = .ok (.if_icmp .ne 7, 3) := by decide +kernel
theorem dX11_head_187 : decode cX11_head 187 = .ok (.iconst 1, 1) := by decide +kernel
theorem dX11_head_188 : decode cX11_head 188 = .ok (.goto 4, 3) := by decide +kernel
theorem dX11_head_191 : decode cX11_head 191 = .ok (.iconst 0, 1) := by decide +kernel
theorem dX11_head_192 : decode cX11_head 192 = .ok (.invokevirtual 219, 3) := by decide +kernel
theorem dX11_head_195 : decode cX11_head 195 = .ok (.aload_n 0, 1) := by decide +kernel
theorem dX11_head_196 : decode cX11_head 196 = .ok (.getfield 209, 3) := by decide +kernel
theorem dX11_head_199 : decode cX11_head 199 = .ok (.ifCond .eq 5, 3) := by decide +kernel
theorem dX11_head_202 : decode cX11_head 202 = .ok (.iconst 0, 1) := by decide +kernel
theorem dX11_head_203 : decode cX11_head 203 = .ok (.ireturn, 1) := by decide +kernel
theorem dX11_head_204 : decode cX11_head 204 = .ok (.aload_n 0, 1) := by decide +kernel
theorem dX11_head_205 : decode cX11_head 205 = .ok (.getfield 77, 3) := by decide +kernel
theorem dX11_head_208 : decode cX11_head 208 = .ok (.iload 6, 2) := by decide +kernel
theorem dX11_head_210 : decode cX11_head 210 = .ok (.aload_n 0, 1) := by decide +kernel
theorem dX11_head_211 : decode cX11_head 211 = .ok (.invokevirtual 223, 3) := by decide +kernel
theorem dX11_head_214 : decode cX11_head 214 = .ok (.iastore, 1) := by decide +kernel
theorem dX11_head_215 : decode cX11_head 215 = .ok (.aload_n 0, 1) := by decide +kernel
theorem dX11_head_216 : decode cX11_head 216 = .ok (.getfield 80, 3) := by decide +kernel
theorem dX11_head_219 : decode cX11_head 219 = .ok (.iload 6, 2) := by decide +kernel
theorem dX11_head_221 : decode cX11_head 221 = .ok (.iload 6, 2) := by decide +kernel
theorem dX11_head_223 : decode cX11_head 223 = .ok (.iconst 2, 1) := by decide +kernel
theorem dX11_head_224 : decode cX11_head 224 = .ok (.if_icmp .ge 10, 3) := by decide +kernel
theorem dX11_head_227 : decode cX11_head 227 = .ok (.aload_n 0, 1) := by decide +kernel
theorem dX11_head_228 : decode cX11_head 228 = .ok (.invokevirtual 223, 3) := by decide +kernel
theorem dX11_head_231 : decode cX11_head 231 = .ok (.goto 10, 3) := by decide +kernel
theorem dX11_head_234 : decode cX11_head 234 = .ok (.aload_n 0, 1) := by decide +kernel
theorem dX11_head_235 : decode cX11_head 235 = .ok (.getfield 77, 3) := by decide +kernel
theorem dX11_head_238 : decode cX11_head 238 = .ok (.iload 6, 2) := by decide +kernel
theorem dX11_head_240 : decode cX11_head 240 = .ok (.iaload, 1) := by decide +kernel
theorem dX11_head_241 : decode cX11_head 241 = .ok (.iastore, 1) := by decide +kernel
theorem dX11_head_242 : decode cX11_head 242 = .ok (.aload_n 0, 1) := by decide +kernel
theorem dX11_head_243 : decode cX11_head 243 = .ok (.iload 6, 2) := by decide +kernel
theorem dX11_head_245 : decode cX11_head 245 = .ok (.iconst 2, 1) := by decide +kernel
theorem dX11_head_246 : decode cX11_head 246 = .ok (.if_icmp .lt 26, 3) := by decide +kernel
theorem dX11_head_249 : decode cX11_head 249 = .ok (.aload_n 0, 1) := by decide +kernel
theorem dX11_head_250 : decode cX11_head 250 = .ok (.getfield 77, 3) := by decide +kernel
theorem dX11_head_253 : decode cX11_head 253 = .ok (.iload 6, 2) := by decide +kernel
theorem dX11_head_255 : decode cX11_head 255 = .ok (.iaload, 1) := by decide +kernel
theorem dX11_head_256 : decode cX11_head 256 = .ok (.iconst 1, 1) := by decide +kernel
theorem dX11_head_257 : decode cX11_head 257 = .ok (.if_icmp .lt 19, 3) := by decide +kernel
theorem dX11_head_260 : decode cX11_head 260 = .ok (.aload_n 0, 1) := by decide +kernel
theorem dX11_head_261 : decode cX11_head 261 = .ok (.getfield 77, 3) := by decide +kernel
theorem dX11_head_264 : decode cX11_head 264 = .ok (.iload 6, 2) := by decide +kernel
theorem dX11_head_266 : decode cX11_head 266 = .ok (.iaload, 1) := by decide +kernel
theorem dX11_head_267 : decode cX11_head 267 = .ok (.bipush 20, 2) := by decide +kernel
theorem dX11_head_269 : decode cX11_head 269 = .ok (.if_icmp .gt 7, 3) := by decide +kernel
theorem dX11_head_272 : decode cX11_head 272 = .ok (.iconst 1, 1) := by decide +kernel
theorem dX11_head_273 : decode cX11_head 273 = .ok (.goto 4, 3) := by decide +kernel
theorem dX11_head_276 : decode cX11_head 276 = .ok (.iconst 0, 1) := by decide +kernel
theorem dX11_head_277 : decode cX11_head 277 = .ok (.invokevirtual 219, 3) := by decide +kernel
theorem dX11_head_280 : decode cX11_head 280 = .ok (.iload_n 3, 1) := by decide +kernel
theorem dX11_head_281 : decode cX11_head 281 = .ok (.aload_n 0, 1) := by decide +kernel
theorem dX11_head_282 : decode cX11_head 282 = .ok (.getfield 80, 3) := by decide +kernel
theorem dX11_head_285 : decode cX11_head 285 = .ok (.iload 6, 2) := by decide +kernel
theorem dX11_head_287 : decode cX11_head 287 = .ok (.iaload, 1) := by decide +kernel
theorem dX11_head_288 : decode cX11_head 288 = .ok (.iadd, 1) := by decide +kernel
theorem dX11_head_289 : decode cX11_head 289 = .ok (.istore_n 3, 1) := by decide +kernel
theorem dX11_head_290 : decode cX11_head 290 = .ok (.iload 6, 2) := by decide +kernel
theorem dX11_head_292 : decode cX11_head 292 = .ok (.istore_n 2, 1) := by decide +kernel
theorem dX11_head_293 : decode cX11_head 293 = .ok (.iinc 4 1, 3) := by decide +kernel
theorem dX11_head_296 : decode cX11_head 296 = .ok (.goto (-187), 3) := by decide +kernel
theorem dX11_head_299 : decode cX11_head 299 = .ok (.aload_n 0, 1) := by decide +kernel
theorem dX11_head_300 : decode cX11_head 300 = .ok (.aload_n 0, 1) := by decide +kernel
theorem dX11_head_301 : decode cX11_head 301 = .ok (.getfield 77, 3) := by decide +kernel
theorem dX11_head_304 : decode cX11_head 304 = .ok (.iconst 0, 1) := by decide +kernel
theorem dX11_head_305 : decode cX11_head 305 = .ok (.iaload, 1) := by decide +kernel
theorem dX11_head_306 : decode cX11_head 306 = .ok (.ifCond .ge 7, 3) := by decide +kernel
theorem dX11_head_309 : decode cX11_head 309 = .ok (.iconst 1, 1) := by decide +kernel
theorem dX11_head_310 : decode cX11_head 310 = .ok (.goto 4, 3) := by decide +kernel
theorem dX11_head_313 : decode cX11_head 313 = .ok (.iconst 0, 1) := by decide +kernel
theorem dX11_head_314 : decode cX11_head 314 = .ok (.aload_n 0, 1) := by decide +kernel
theorem dX11_head_315 : decode cX11_head 315 = .ok (.getfield 77, 3) := by decide +kernel
theorem dX11_head_318 : decode cX11_head 318 = .ok (.iconst 1, 1) := by decide +kernel
theorem dX11_head_319 : decode cX11_head 319 = .ok (.iaload, 1) := by decide +kernel
theorem dX11_head_320 : decode cX11_head 320 = .ok (.ifCond .ge 7, 3) := by decide +kernel
theorem dX11_head_323 : decode cX11_head 323 = .ok (.iconst 1, 1) := by decide +kernel
theorem dX11_head_324 : decode cX11_head 324 = .ok (.goto 4, 3) := by decide +kernel
theorem dX11_head_327 : decode cX11_head 327 = .ok (.iconst 0, 1) := by decide +kernel
theorem dX11_head_328 : decode cX11_head 328 = .ok (.if_icmp .ne 7, 3) := by decide +kernel
theorem dX11_head_331 : decode cX11_head 331 = .ok (.iconst 1, 1) := by decide +kernel
theorem dX11_head_332 : decode cX11_head 332 = .ok (.goto 4, 3) := by decide +kernel
theorem dX11_head_335 : decode cX11_head 335 = .ok (.iconst 0, 1) := by decide +kernel
theorem dX11_head_336 : decode cX11_head 336 = .ok (.invokevirtual 219, 3) := by decide +kernel
theorem dX11_head_339 : decode cX11_head 339 = .ok (.aload_n 0, 1) := by decide +kernel
theorem dX11_head_340 : decode cX11_head 340 = .ok (.getfield 209, 3) := by decide +kernel
theorem dX11_head_343 : decode cX11_head 343 = .ok (.ifCond .eq 7, 3) := by decide +kernel
theorem dX11_head_346 : decode cX11_head 346 = .ok (.iconst 0, 1) := by decide +kernel
theorem dX11_head_347 : decode cX11_head 347 = .ok (.goto 7, 3) := by decide +kernel
theorem dX11_head_350 : decode cX11_head 350 = .ok (.aload_n 0, 1) := by decide +kernel
theorem dX11_head_351 : decode cX11_head 351 = .ok (.invokevirtual 223, 3) := by decide +kernel
theorem dX11_head_354 : decode cX11_head 354 = .ok (.istore 4, 2) := by decide +kernel
theorem dX11_head_356 : decode cX11_head 356 = .ok (.aload_n 0, 1) := by decide +kernel
theorem dX11_head_357 : decode cX11_head 357 = .ok (.iload 4, 2) := by decide +kernel
theorem dX11_head_359 : decode cX11_head 359 = .ok (.iload_n 3, 1) := by decide +kernel
theorem dX11_head_360 : decode cX11_head 360 = .ok (.if_icmp .ne 15, 3) := by decide +kernel
theorem dX11_head_363 : decode cX11_head 363 = .ok (.iload 4, 2) := by decide +kernel
theorem dX11_head_365 : decode cX11_head 365 = .ok (.sipush 1000, 3) := by decide +kernel
theorem dX11_head_368 : decode cX11_head 368 = .ok (.if_icmp .gt 7, 3) := by decide +kernel
theorem dX11_head_371 : decode cX11_head 371 = .ok (.iconst 1, 1) := by decide +kernel
theorem dX11_head_372 : decode cX11_head 372 = .ok (.goto 4, 3) := by decide +kernel
theorem dX11_head_375 : decode cX11_head 375 = .ok (.iconst 0, 1) := by decide +kernel
theorem dX11_head_376 : decode cX11_head 376 = .ok (.invokevirtual 219, 3) := by decide +kernel
theorem dX11_head_379 : decode cX11_head 379 = .ok (.iload 4, 2) := by decide +kernel
theorem dX11_head_381 : decode cX11_head 381 = .ok (.ireturn, 1) := by decide +kernel
theorem dX11_nextBit_0 : decode cX11_nextBit 0 = .ok (.aload_n 0, 1) := by decide +kernel
theorem dX11_nextBit_1 : decode cX11_nextBit 1 = .ok (.getfield 226, 3) := by decide +kernel
theorem dX11_nextBit_4 : decode cX11_nextBit 4 = .ok (.ifCond .ne 17, 3) := by decide +kernel
theorem dX11_nextBit_7 : decode cX11_nextBit 7 = .ok (.aload_n 0, 1) := by decide +kernel
theorem dX11_nextBit_8 : decode cX11_nextBit 8 = .ok (.aload_n 0, 1) := by decide +kernel
theorem dX11_nextBit_9 : decode cX11_nextBit 9 = .ok (.invokevirtual 216, 3) := by decide +kernel
theorem dX11_nextBit_12 : decode cX11_nextBit 12 = .ok (.putfield 229, 3) := by decide +kernel
theorem dX11_nextBit_15 : decode cX11_nextBit 15 = .ok (.aload_n 0, 1) := by decide +kernel
theorem dX11_nextBit_16 : decode cX11_nextBit 16 = .ok (.bipush 8, 2) := by decide +kernel
theorem dX11_nextBit_18 : decode cX11_nextBit 18 = .ok (.putfield 226, 3) := by decide +kernel
theorem dX11_nextBit_21 : decode cX11_nextBit 21 = .ok (.aload_n 0, 1) := by decide +kernel
theorem dX11_nextBit_22 : decode cX11_nextBit 22 = .ok (.dup, 1) := by decide +kernel
theorem dX11_nextBit_23 : decode cX11_nextBit 23 = .ok (.getfield 226, 3) := by decide +kernel
theorem dX11_nextBit_26 : decode cX11_nextBit 26 = .ok (.iconst 1, 1) := by decide +kernel
theorem dX11_nextBit_27 : decode cX11_nextBit 27 = .ok (.isub, 1) := by decide +kernel
theorem dX11_nextBit_28 : decode cX11_nextBit 28 = .ok (.putfield 226, 3) := by decide +kernel
theorem dX11_nextBit_31 : decode cX11_nextBit 31 = .ok (.aload_n 0, 1) := by decide +kernel
theorem dX11_nextBit_32 : decode cX11_nextBit 32 = .ok (.getfield 229, 3) := by decide +kernel
theorem dX11_nextBit_35 : decode cX11_nextBit 35 = .ok (.aload_n 0, 1) := by decide +kernel
theorem dX11_nextBit_36 : decode cX11_nextBit 36 = .ok (.getfield 226, 3) := by decide +kernel
theorem dX11_nextBit_39 : decode cX11_nextBit 39 = .ok (.ishr, 1) := by decide +kernel
theorem dX11_nextBit_40 : decode cX11_nextBit 40 = .ok (.iconst 1, 1) := by decide +kernel
theorem dX11_nextBit_41 : decode cX11_nextBit 41 = .ok (.iand, 1) := by decide +kernel
theorem dX11_nextBit_42 : decode cX11_nextBit 42 = .ok (.ireturn, 1) := by decide +kernel
theorem dX11_nextBits_0 : decode cX11_nextBits 0 = .ok (.iconst 0, 1) := by decide +kernel
theorem dX11_nextBits_1 : decode cX11_nextBits 1 = .ok (.istore_n 2, 1) := by decide +kernel
theorem dX11_nextBits_2 : decode cX11_nextBits 2 = .ok (.iconst 0, 1) := by decide +kernel
theorem dX11_nextBits_3 : decode cX11_nextBits 3 = .ok (.istore_n 3, 1) := by decide +kernel
theorem dX11_nextBits_4 : decode cX11_nextBits 4 = .ok (.iload_n 3, 1) := by decide +kernel
theorem dX11_nextBits_5 : decode cX11_nextBits 5 = .ok (.iload_n 1, 1) := by decide +kernel
theorem dX11_nextBits_6 : decode cX11_nextBits 6 = .ok (.if_icmp .ge 18, 3) := by decide +kernel
theorem dX11_nextBits_9 : decode cX11_nextBits 9 = .ok (.iconst 2, 1) := by decide +kernel
theorem dX11_nextBits_10 : decode cX11_nextBits 10 = .ok (.iload_n 2, 1) := by decide +kernel
theorem dX11_nextBits_11 : decode cX11_nextBits 11 = .ok (.imul, 1) := by decide +kernel
theorem dX11_nextBits_12 : decode cX11_nextBits 12 = .ok (.aload_n 0, 1) := by decide +kernel
theorem dX11_nextBits_13 : decode cX11_nextBits 13 = .ok (.invokevirtual 232, 3) := by decide +kernel
theorem dX11_nextBits_16 : decode cX11_nextBits 16 = .ok (.iadd, 1) := by decide +kernel
theorem dX11_nextBits_17 : decode cX11_nextBits 17 = .ok (.istore_n 2, 1) := by decide +kernel
theorem dX11_nextBits_18 : decode cX11_nextBits 18 = .ok (.iinc 3 1, 3) := by decide +kernel
theorem dX11_nextBits_21 : decode cX11_nextBits 21 = .ok (.goto (-17), 3) := by decide +kernel
theorem dX11_nextBits_24 : decode cX11_nextBits 24 = .ok (.iload_n 2, 1) := by decide +kernel
theorem dX11_nextBits_25 : decode cX11_nextBits 25 = .ok (.ireturn, 1) := by decide +kernel
theorem dX11_nextGamma_0 : decode cX11_nextGamma 0 = .ok (.iconst 0, 1) := by decide +kernel
theorem dX11_nextGamma_1 : decode cX11_nextGamma 1 = .ok (.istore_n 1, 1) := by decide +kernel
theorem dX11_nextGamma_2 : decode cX11_nextGamma 2 = .ok (.aload_n 0, 1) := by decide +kernel
theorem dX11_nextGamma_3 : decode cX11_nextGamma 3 = .ok (.getfield 209, 3) := by decide +kernel
theorem dX11_nextGamma_6 : decode cX11_nextGamma 6 = .ok (.ifCond .ne 31, 3) := by decide +kernel
theorem dX11_nextGamma_9 : decode cX11_nextGamma 9 = .ok (.aload_n 0, 1) := by decide +kernel
theorem dX11_nextGamma_10 : decode cX11_nextGamma 10 = .ok (.invokevirtual 232, 3) := by decide +kernel
theorem dX11_nextGamma_13 : decode cX11_nextGamma 13 = .ok (.ifCond .ne 24, 3) := by decide +kernel
theorem dX11_nextGamma_16 : decode cX11_nextGamma 16 = .ok (.iinc 1 1, 3) := by decide +kernel
theorem dX11_nextGamma_19 : decode cX11_nextGamma 19 = .ok (.aload_n 0, 1) := by decide +kernel
theorem dX11_nextGamma_20 : decode cX11_nextGamma 20 = .ok (.iload_n 1, 1) := by decide +kernel
theorem dX11_nextGamma_21 : decode cX11_nextGamma 21 = .ok (.bipush 16, 2) := by decide +kernel
theorem dX11_nextGamma_23 : decode cX11_nextGamma 23 = .ok (.if_icmp .ge 7, 3) := by decide +kernel
theorem dX11_nextGamma_26 : decode cX11_nextGamma 26 = .ok (.iconst 1, 1) := by decide +kernel
theorem dX11_nextGamma_27 : decode cX11_nextGamma 27 = .ok (.goto 4, 3) := by decide +kernel
theorem dX11_nextGamma_30 : decode cX11_nextGamma 30 = .ok (.iconst 0, 1) := by decide +kernel
theorem dX11_nextGamma_31 : decode cX11_nextGamma 31 = .ok (.invokevirtual 219, 3) := by decide +kernel
theorem dX11_nextGamma_34 : decode cX11_nextGamma 34 = .ok (.goto (-32), 3) := by decide +kernel
theorem dX11_nextGamma_37 : decode cX11_nextGamma 37 = .ok (.aload_n 0, 1) := by decide +kernel
theorem dX11_nextGamma_38 : decode cX11_nextGamma 38 = .ok (.getfield 209, 3) := by decide +kernel
theorem dX11_nextGamma_41 : decode cX11_nextGamma 41 = .ok (.ifCond .eq 7, 3) := by decide +kernel
theorem dX11_nextGamma_44 : decode cX11_nextGamma 44 = .ok (.iconst 0, 1) := by decide +kernel
theorem dX11_nextGamma_45 : decode cX11_nextGamma 45 = .ok (.goto 12, 3) := by decide +kernel
theorem dX11_nextGamma_48 : decode cX11_nextGamma 48 = .ok (.iconst 1, 1) := by decide +kernel
theorem dX11_nextGamma_49 : decode cX11_nextGamma 49 = .ok (.iload_n 1, 1) := by decide +kernel
theorem dX11_nextGamma_50 : decode cX11_nextGamma 50 = .ok (.ishl, 1) := by decide +kernel
theorem dX11_nextGamma_51 : decode cX11_nextGamma 51 = .ok (.aload_n 0, 1) := by decide +kernel
theorem dX11_nextGamma_52 : decode cX11_nextGamma 52 = .ok (.iload_n 1, 1) := by decide +kernel
theorem dX11_nextGamma_53 : decode cX11_nextGamma 53 = .ok (.invokevirtual 235, 3) := by decide +kernel
theorem dX11_nextGamma_56 : decode cX11_nextGamma 56 = .ok (.iadd, 1) := by decide +kernel
theorem dX11_nextGamma_57 : decode cX11_nextGamma 57 = .ok (.ireturn, 1) := by decide +kernel
theorem dX11_expand_0 : decode cX11_expand 0 = .ok (.aload_n 0, 1) := by decide +kernel
theorem dX11_expand_1 : decode cX11_expand 1 = .ok (.iconst 0, 1) := by decide +kernel
theorem dX11_expand_2 : decode cX11_expand 2 = .ok (.putfield 226, 3) := by decide +kernel
theorem dX11_expand_5 : decode cX11_expand 5 = .ok (.aload_n 0, 1) := by decide +kernel
theorem dX11_expand_6 : decode cX11_expand 6 = .ok (.iconst 0, 1) := by decide +kernel
theorem dX11_expand_7 : decode cX11_expand 7 = .ok (.putfield 143, 3) := by decide +kernel
theorem dX11_expand_10 : decode cX11_expand 10 = .ok (.aload_n 0, 1) := by decide +kernel
theorem dX11_expand_11 : decode cX11_expand 11 = .ok (.getfield 143, 3) := by decide +kernel
theorem dX11_expand_14 : decode cX11_expand 14 = .ok (.iload_n 1, 1) := by decide +kernel
theorem dX11_expand_15 : decode cX11_expand 15 = .ok (.if_icmp .ge 119, 3) := by decide +kernel
theorem dX11_expand_18 : decode cX11_expand 18 = .ok (.aload_n 0, 1) := by decide +kernel
theorem dX11_expand_19 : decode cX11_expand 19 = .ok (.getfield 209, 3) := by decide +kernel
theorem dX11_expand_22 : decode cX11_expand 22 = .ok (.ifCond .ne 112, 3) := by decide +kernel
theorem dX11_expand_25 : decode cX11_expand 25 = .ok (.aload_n 0, 1) := by decide +kernel
theorem dX11_expand_26 : decode cX11_expand 26 = .ok (.invokevirtual 232, 3) := by decide +kernel
theorem dX11_expand_29 : decode cX11_expand 29 = .ok (.ifCond .ne 16, 3) := by decide +kernel
theorem dX11_expand_32 : decode cX11_expand 32 = .ok (.aload_n 0, 1) := by decide +kernel
theorem dX11_expand_33 : decode cX11_expand 33 = .ok (.aload_n 0, 1) := by decide +kernel
theorem dX11_expand_34 : decode cX11_expand 34 = .ok (.bipush 8, 2) := by decide +kernel
theorem dX11_expand_36 : decode cX11_expand 36 = .ok (.invokevirtual 235, 3) := by decide +kernel
theorem dX11_expand_39 : decode cX11_expand 39 = .ok (.invokevirtual 146, 3) := by decide +kernel
theorem dX11_expand_42 : decode cX11_expand 42 = .ok (.goto (-32), 3) := by decide +kernel
theorem dX11_expand_45 : decode cX11_expand 45 = .ok (.aload_n 0, 1) := by decide +kernel
theorem dX11_expand_46 : decode cX11_expand 46 = .ok (.invokevirtual 238, 3) := by decide +kernel
theorem dX11_expand_49 : decode cX11_expand 49 = .ok (.iconst 2, 1) := by decide +kernel
theorem dX11_expand_50 : decode cX11_expand 50 = .ok (.iadd, 1) := by decide +kernel
theorem dX11_expand_51 : decode cX11_expand 51 = .ok (.istore_n 2, 1) := by decide +kernel
theorem dX11_expand_52 : decode cX11_expand 52 = .ok (.aload_n 0, 1) := by decide +kernel
theorem dX11_expand_53 : decode cX11_expand 53 = .ok (.invokevirtual 238, 3) := by decide +kernel
theorem dX11_expand_56 : decode cX11_expand 56 = .ok (.istore_n 3, 1) := by decide +kernel
theorem dX11_expand_57 : decode cX11_expand 57 = .ok (.aload_n 0, 1) := by decide +kernel
theorem dX11_expand_58 : decode cX11_expand 58 = .ok (.iload_n 2, 1) := by decide +kernel
theorem dX11_expand_59 : decode cX11_expand 59 = .ok (.iconst 3, 1) := by decide +kernel
theorem dX11_expand_60 : decode cX11_expand 60 = .ok (.if_icmp .lt 30, 3) := by decide +kernel
theorem dX11_expand_63 : decode cX11_expand 63 = .ok (.iload_n 2, 1) := by decide +kernel
theorem dX11_expand_64 : decode cX11_expand 64 = .ok (.iload_n 1, 1) := by decide +kernel
theorem dX11_expand_65 : decode cX11_expand 65 = .ok (.aload_n 0, 1) := by decide +kernel
theorem dX11_expand_66 : decode cX11_expand 66 = .ok (.getfield 143, 3) := by decide +kernel
theorem dX11_expand_69 : decode cX11_expand 69 = .ok (.isub, 1) := by decide +kernel
theorem dX11_expand_70 : decode cX11_expand 70 = .ok (.if_icmp .gt 20, 3) := by decide +kernel
theorem dX11_expand_73 : decode cX11_expand 73 = .ok (.iload_n 3, 1) := by decide +kernel
theorem dX11_expand_74 : decode cX11_expand 74 = .ok (.iconst 1, 1) := by decide +kernel
theorem dX11_expand_75 : decode cX11_expand 75 = .ok (.if_icmp .lt 15, 3) := by decide +kernel
theorem dX11_expand_78 : decode cX11_expand 78 = .ok (.iload_n 3, 1) := by decide +kernel
theorem dX11_expand_79 : decode cX11_expand 79 = .ok (.aload_n 0, 1) := by decide +kernel
theorem dX11_expand_80 : decode cX11_expand 80 = .ok (.getfield 143, 3) := by decide +kernel
theorem dX11_expand_83 : decode cX11_expand 83 = .ok (.if_icmp .gt 7, 3) := by decide +kernel
theorem dX11_expand_86 : decode cX11_expand 86 = .ok (.iconst 1, 1) := by decide +kernel
theorem dX11_expand_87 : decode cX11_expand 87 = .ok (.goto 4, 3) := by decide +kernel
theorem dX11_expand_90 : decode cX11_expand 90 = .ok (.iconst 0, 1) := by decide +kernel
theorem dX11_expand_91 : decode cX11_expand 91 = .ok (.invokevirtual 219, 3) := by decide +kernel
theorem dX11_expand_94 : decode cX11_expand 94 = .ok (.iconst 0, 1) := by decide +kernel
theorem dX11_expand_95 : decode cX11_expand 95 = .ok (.istore 4, 2) := by decide +kernel
theorem dX11_expand_97 : decode cX11_expand 97 = .ok (.iload 4, 2) := by decide +kernel
theorem dX11_expand_99 : decode cX11_expand 99 = .ok (.iload_n 2, 1) := by decide +kernel
theorem dX11_expand_100 : decode cX11_expand 100 = .ok (.if_icmp .ge 31, 3) := by decide +kernel
theorem dX11_expand_103 : decode cX11_expand 103 = .ok (.aload_n 0, 1) := by decide +kernel
theorem dX11_expand_104 : decode cX11_expand 104 = .ok (.getfield 209, 3) := by decide +kernel
theorem dX11_expand_107 : decode cX11_expand 107 = .ok (.ifCond .ne 24, 3) := by decide +kernel
theorem dX11_expand_110 : decode cX11_expand 110 = .ok (.aload_n 0, 1) := by decide +kernel
theorem dX11_expand_111 : decode cX11_expand 111 = .ok (.aload_n 0, 1) := by decide +kernel
theorem dX11_expand_112 : decode cX11_expand 112 = .ok (.getfield 71, 3) := by decide +kernel
theorem dX11_expand_115 : decode cX11_expand 115 = .ok (.aload_n 0, 1) := by decide +kernel
theorem dX11_expand_116 : decode cX11_expand 116 = .ok (.getfield 143, 3) := by decide +kernel
theorem dX11_expand_119 : decode cX11_expand 119 = .ok (.iload_n 3, 1) := by decide +kernel
theorem dX11_expand_120 : decode cX11_expand 120 = .ok (.isub, 1) := by decide +kernel
theorem dX11_expand_121 : decode cX11_expand 121 = .ok (.iaload, 1) := by decide +kernel
theorem dX11_expand_122 : decode cX11_expand 122 = .ok (.invokevirtual 146, 3) := by decide +kernel
theorem dX11_expand_125 : decode cX11_expand 125 = .ok (.iinc 4 1, 3) := by decide +kernel
theorem dX11_expand_128 : decode cX11_expand 128 = .ok (.goto (-31), 3) := by decide +kernel
theorem dX11_expand_131 : decode cX11_expand 131 = .ok (.goto (-121), 3) := by decide +kernel
theorem dX11_expand_134 : decode cX11_expand 134 = .ok (.aload_n 0, 1) := by decide +kernel
theorem dX11_expand_135 : decode cX11_expand 135 = .ok (.getfield 226, 3) := by decide +kernel
theorem dX11_expand_138 : decode cX11_expand 138 = .ok (.ifCond .le 29, 3) := by decide +kernel
theorem dX11_expand_141 : decode cX11_expand 141 = .ok (.aload_n 0, 1) := by decide +kernel
theorem dX11_expand_142 : decode cX11_expand 142 = .ok (.getfield 209, 3) := by decide +kernel
theorem dX11_expand_145 : decode cX11_expand 145 = .ok (.ifCond .ne 22, 3) := by decide +kernel
theorem dX11_expand_148 : decode cX11_expand 148 = .ok (.aload_n 0, 1) := by decide +kernel
theorem dX11_expand_149 : decode cX11_expand 149 = .ok (.aload_n 0, 1) := by decide +kernel
theorem dX11_expand_150 : decode cX11_expand 150 = .ok (.invokevirtual 232, 3) := by decide +kernel
theorem dX11_expand_153 : decode cX11_expand 153 = .ok (.ifCond .ne 7, 3) := by decide +kernel
theorem dX11_expand_156 : decode cX11_expand 156 = .ok (.iconst 1, 1) := by decide +kernel
theorem dX11_expand_157 : decode cX11_expand 157 = .ok (.goto 4, 3) := by decide +kernel
theorem dX11_expand_160 : decode cX11_expand 160 = .ok (.iconst 0, 1) := by decide +kernel
theorem dX11_expand_161 : decode cX11_expand 161 = .ok (.invokevirtual 219, 3) := by decide +kernel
theorem dX11_expand_164 : decode cX11_expand 164 = .ok (.goto (-30), 3) := by decide +kernel
theorem dX11_expand_167 : decode cX11_expand 167 = .ok (.aload_n 0, 1) := by decide +kernel
theorem dX11_expand_168 : decode cX11_expand 168 = .ok (.aload_n 0, 1) := by decide +kernel
theorem dX11_expand_169 : decode cX11_expand 169 = .ok (.getfield 203, 3) := by decide +kernel
theorem dX11_expand_172 : decode cX11_expand 172 = .ok (.aload_n 0, 1) := by decide +kernel
theorem dX11_expand_173 : decode cX11_expand 173 = .ok (.getfield 206, 3) := by decide +kernel
theorem dX11_expand_176 : decode cX11_expand 176 = .ok (.if_icmp .ne 7, 3) := by decide +kernel
theorem dX11_expand_179 : decode cX11_expand 179 = .ok (.iconst 1, 1) := by decide +kernel
theorem dX11_expand_180 : decode cX11_expand 180 = .ok (.goto 4, 3) := by decide +kernel
theorem dX11_expand_183 : decode cX11_expand 183 = .ok (.iconst 0, 1) := by decide +kernel
theorem dX11_expand_184 : decode cX11_expand 184 = .ok (.invokevirtual 219, 3) := by decide +kernel
theorem dX11_expand_187 : decode cX11_expand 187 = .ok (.return_, 1) := by decide +kernel
theorem dX11_takeStep_0 : decode cX11_takeStep 0 = .ok (.aload_n 0, 1) := by decide +kernel
theorem dX11_takeStep_1 : decode cX11_takeStep 1 = .ok (.getfield 53, 3) := by decide +kernel
theorem dX11_takeStep_4 : decode cX11_takeStep 4 = .ok (.bipush 16, 2) := by decide +kernel
theorem dX11_takeStep_6 : decode cX11_takeStep 6 = .ok (.iload_n 1, 1) := by decide +kernel
theorem dX11_takeStep_7 : decode cX11_takeStep 7 = .ok (.imul, 1) := by decide +kernel
theorem dX11_takeStep_8 : decode cX11_takeStep 8 = .ok (.iload_n 2, 1) := by decide +kernel
theorem dX11_takeStep_9 : decode cX11_takeStep 9 = .ok (.iadd, 1) := by decide +kernel
theorem dX11_takeStep_10 : decode cX11_takeStep 10 = .ok (.iaload, 1) := by decide +kernel
theorem dX11_takeStep_11 : decode cX11_takeStep 11 = .ok (.sipush 128, 3) := by decide +kernel
theorem dX11_takeStep_14 : decode cX11_takeStep 14 = .ok (.irem, 1) := by decide +kernel
theorem dX11_takeStep_15 : decode cX11_takeStep 15 = .ok (.istore_n 3, 1) := by decide +kernel
theorem dX11_takeStep_16 : decode cX11_takeStep 16 = .ok (.aload_n 0, 1) := by decide +kernel
theorem dX11_takeStep_17 : decode cX11_takeStep 17 = .ok (.invokevirtual 216, 3) := by decide +kernel
theorem dX11_takeStep_20 : decode cX11_takeStep 20 = .ok (.istore 4, 2) := by decide +kernel
theorem dX11_takeStep_22 : decode cX11_takeStep 22 = .ok (.iconst 0, 1) := by decide +kernel
theorem dX11_takeStep_23 : decode cX11_takeStep 23 = .ok (.istore 5, 2) := by decide +kernel
theorem dX11_takeStep_25 : decode cX11_takeStep 25 = .ok (.iconst 0, 1) := by decide +kernel
theorem dX11_takeStep_26 : decode cX11_takeStep 26 = .ok (.istore 6, 2) := by decide +kernel
theorem dX11_takeStep_28 : decode cX11_takeStep 28 = .ok (.iload_n 3, 1) := by decide +kernel
theorem dX11_takeStep_29 : decode cX11_takeStep 29 = .ok (.iconst 2, 1) := by decide +kernel
theorem dX11_takeStep_30 : decode cX11_takeStep 30 = .ok (.irem, 1) := by decide +kernel
theorem dX11_takeStep_31 : decode cX11_takeStep 31 = .ok (.iconst 1, 1) := by decide +kernel
theorem dX11_takeStep_32 : decode cX11_takeStep 32 = .ok (.if_icmp .ne 7, 3) := by decide +kernel
theorem dX11_takeStep_35 : decode cX11_takeStep 35 = .ok (.iconst 1, 1) := by decide +kernel
theorem dX11_takeStep_36 : decode cX11_takeStep 36 = .ok (.goto 4, 3) := by decide +kernel
theorem dX11_takeStep_39 : decode cX11_takeStep 39 = .ok (.iconst 0, 1) := by decide +kernel
theorem dX11_takeStep_40 : decode cX11_takeStep 40 = .ok (.istore 7, 2) := by decide +kernel
theorem dX11_takeStep_42 : decode cX11_takeStep 42 = .ok (.iload_n 3, 1) := by decide +kernel
theorem dX11_takeStep_43 : decode cX11_takeStep 43 = .ok (.bipush 10, 2) := by decide +kernel
theorem dX11_takeStep_45 : decode cX11_takeStep 45 = .ok (.if_icmp .ge 18, 3) := by decide +kernel
theorem dX11_takeStep_48 : decode cX11_takeStep 48 = .ok (.iload_n 3, 1) := by decide +kernel
theorem dX11_takeStep_49 : decode cX11_takeStep 49 = .ok (.iconst 2, 1) := by decide +kernel
theorem dX11_takeStep_50 : decode cX11_takeStep 50 = .ok (.irem, 1) := by decide +kernel
theorem dX11_takeStep_51 : decode cX11_takeStep 51 = .ok (.iconst 1, 1) := by decide +kernel
theorem dX11_takeStep_52 : decode cX11_takeStep 52 = .ok (.if_icmp .ne 7, 3) := by decide +kernel
theorem dX11_takeStep_55 : decode cX11_takeStep 55 = .ok (.iconst 1, 1) := by decide +kernel
theorem dX11_takeStep_56 : decode cX11_takeStep 56 = .ok (.goto 21, 3) := by decide +kernel
theorem dX11_takeStep_59 : decode cX11_takeStep 59 = .ok (.iconst 0, 1) := by decide +kernel
theorem dX11_takeStep_60 : decode cX11_takeStep 60 = .ok (.goto 17, 3) := by decide +kernel
theorem dX11_takeStep_63 : decode cX11_takeStep 63 = .ok (.iload_n 3, 1) := by decide +kernel
theorem dX11_takeStep_64 : decode cX11_takeStep 64 = .ok (.iconst 2, 1) := by decide +kernel
theorem dX11_takeStep_65 : decode cX11_takeStep 65 = .ok (.idiv, 1) := by decide +kernel
theorem dX11_takeStep_66 : decode cX11_takeStep 66 = .ok (.iconst 2, 1) := by decide +kernel
theorem dX11_takeStep_67 : decode cX11_takeStep 67 = .ok (.irem, 1) := by decide +kernel
theorem dX11_takeStep_68 : decode cX11_takeStep 68 = .ok (.iconst 1, 1) := by decide +kernel
theorem dX11_takeStep_69 : decode cX11_takeStep 69 = .ok (.if_icmp .ne 7, 3) := by decide +kernel
theorem dX11_takeStep_72 : decode cX11_takeStep 72 = .ok (.iconst 1, 1) := by decide +kernel
theorem dX11_takeStep_73 : decode cX11_takeStep 73 = .ok (.goto 4, 3) := by decide +kernel
theorem dX11_takeStep_76 : decode cX11_takeStep 76 = .ok (.iconst 0, 1) := by decide +kernel
theorem dX11_takeStep_77 : decode cX11_takeStep 77 = .ok (.istore 8, 2) := by decide +kernel
theorem dX11_takeStep_79 : decode cX11_takeStep 79 = .ok (.iload_n 3, 1) := by decide +kernel
theorem dX11_takeStep_80 : decode cX11_takeStep 80 = .ok (.bipush 10, 2) := by decide +kernel
theorem dX11_takeStep_82 : decode cX11_takeStep 82 = .ok (.if_icmp .ge 18, 3) := by decide +kernel
theorem dX11_takeStep_85 : decode cX11_takeStep 85 = .ok (.iload_n 3, 1) := by decide +kernel
theorem dX11_takeStep_86 : decode cX11_takeStep 86 = .ok (.iconst 2, 1) := by decide +kernel
theorem dX11_takeStep_87 : decode cX11_takeStep 87 = .ok (.idiv, 1) := by decide +kernel
theorem dX11_takeStep_88 : decode cX11_takeStep 88 = .ok (.sipush 256, 3) := by decide +kernel
theorem dX11_takeStep_91 : decode cX11_takeStep 91 = .ok (.imul, 1) := by decide +kernel
theorem dX11_takeStep_92 : decode cX11_takeStep 92 = .ok (.iload 4, 2) := by decide +kernel
theorem dX11_takeStep_94 : decode cX11_takeStep 94 = .ok (.iadd, 1) := by decide +kernel
theorem dX11_takeStep_95 : decode cX11_takeStep 95 = .ok (.istore 6, 2) := by decide +kernel
theorem dX11_takeStep_97 : decode cX11_takeStep 97 = .ok (.goto 202, 3) := by decide +kernel
theorem dX11_takeStep_100 : decode cX11_takeStep 100 = .ok (.iload_n 3, 1) := by decide +kernel
theorem dX11_takeStep_101 : decode cX11_takeStep 101 = .ok (.bipush 20, 2) := by decide +kernel
theorem dX11_takeStep_103 : decode cX11_takeStep 103 = .ok (.if_icmp .ge 21, 3) := by decide +kernel
theorem dX11_takeStep_106 : decode cX11_takeStep 106 = .ok (.iload_n 3, 1) := by decide +kernel
theorem dX11_takeStep_107 : decode cX11_takeStep 107 = .ok (.bipush 10, 2) := by decide +kernel
theorem dX11_takeStep_109 : decode cX11_takeStep 109 = .ok (.isub, 1) := by decide +kernel
theorem dX11_takeStep_110 : decode cX11_takeStep 110 = .ok (.iconst 2, 1) := by decide +kernel
theorem dX11_takeStep_111 : decode cX11_takeStep 111 = .ok (.idiv, 1) := by decide +kernel
theorem dX11_takeStep_112 : decode cX11_takeStep 112 = .ok (.sipush 256, 3) := by decide +kernel
theorem dX11_takeStep_115 : decode cX11_takeStep 115 = .ok (.imul, 1) := by decide +kernel
theorem dX11_takeStep_116 : decode cX11_takeStep 116 = .ok (.iload 4, 2) := by decide +kernel
theorem dX11_takeStep_118 : decode cX11_takeStep 118 = .ok (.iadd, 1) := by decide +kernel
theorem dX11_takeStep_119 : decode cX11_takeStep 119 = .ok (.istore 5, 2) := by decide +kernel
theorem dX11_takeStep_121 : decode cX11_takeStep 121 = .ok (.goto 178, 3) := by decide +kernel
theorem dX11_takeStep_124 : decode cX11_takeStep 124 = .ok (.iload_n 3, 1) := by decide +kernel
theorem dX11_takeStep_125 : decode cX11_takeStep 125 = .ok (.bipush 84, 2) := by decide +kernel
theorem dX11_takeStep_127 : decode cX11_takeStep 127 = .ok (.if_icmp .ge 47, 3) := by decide +kernel
theorem dX11_takeStep_130 : decode cX11_takeStep 130 = .ok (.iload_n 3, 1) := by decide +kernel
theorem dX11_takeStep_131 : decode cX11_takeStep 131 = .ok (.bipush 20, 2) := by decide +kernel
theorem dX11_takeStep_133 : decode cX11_takeStep 133 = .ok (.isub, 1) := by decide +kernel
theorem dX11_takeStep_134 : decode cX11_takeStep 134 = .ok (.bipush 16, 2) := by decide +kernel
theorem dX11_takeStep_136 : decode cX11_takeStep 136 = .ok (.idiv, 1) := by decide +kernel
theorem dX11_takeStep_137 : decode cX11_takeStep 137 = .ok (.bipush 16, 2) := by decide +kernel
theorem dX11_takeStep_139 : decode cX11_takeStep 139 = .ok (.imul, 1) := by decide +kernel
theorem dX11_takeStep_140 : decode cX11_takeStep 140 = .ok (.iload 4, 2) := by decide +kernel
theorem dX11_takeStep_142 : decode cX11_takeStep 142 = .ok (.bipush 16, 2) := by decide +kernel
theorem dX11_takeStep_144 : decode cX11_takeStep 144 = .ok (.idiv, 1) := by decide +kernel
theorem dX11_takeStep_145 : decode cX11_takeStep 145 = .ok (.iadd, 1) := by decide +kernel
theorem dX11_takeStep_146 : decode cX11_takeStep 146 = .ok (.iconst 1, 1) := by decide +kernel
theorem dX11_takeStep_147 : decode cX11_takeStep 147 = .ok (.iadd, 1) := by decide +kernel
theorem dX11_takeStep_148 : decode cX11_takeStep 148 = .ok (.istore 5, 2) := by decide +kernel
theorem dX11_takeStep_150 : decode cX11_takeStep 150 = .ok (.iload_n 3, 1) := by decide +kernel
theorem dX11_takeStep_151 : decode cX11_takeStep 151 = .ok (.bipush 20, 2) := by decide +kernel
theorem dX11_takeStep_153 : decode cX11_takeStep 153 = .ok (.isub, 1) := by decide +kernel
theorem dX11_takeStep_154 : decode cX11_takeStep 154 = .ok (.iconst 4, 1) := by decide +kernel
theorem dX11_takeStep_155 : decode cX11_takeStep 155 = .ok (.idiv, 1) := by decide +kernel
theorem dX11_takeStep_156 : decode cX11_takeStep 156 = .ok (.iconst 4, 1) := by decide +kernel
theorem dX11_takeStep_157 : decode cX11_takeStep 157 = .ok (.irem, 1) := by decide +kernel
theorem dX11_takeStep_158 : decode cX11_takeStep 158 = .ok (.bipush 16, 2) := by decide +kernel
theorem dX11_takeStep_160 : decode cX11_takeStep 160 = .ok (.imul, 1) := by decide +kernel
theorem dX11_takeStep_161 : decode cX11_takeStep 161 = .ok (.iload 4, 2) := by decide +kernel
theorem dX11_takeStep_163 : decode cX11_takeStep 163 = .ok (.bipush 16, 2) := by decide +kernel
theorem dX11_takeStep_165 : decode cX11_takeStep 165 = .ok (.irem, 1) := by decide +kernel
theorem dX11_takeStep_166 : decode cX11_takeStep 166 = .ok (.iadd, 1) := by decide +kernel
theorem dX11_takeStep_167 : decode cX11_takeStep 167 = .ok (.iconst 1, 1) := by decide +kernel
theorem dX11_takeStep_168 : decode cX11_takeStep 168 = .ok (.iadd, 1) := by decide +kernel
theorem dX11_takeStep_169 : decode cX11_takeStep 169 = .ok (.istore 6, 2) := by decide +kernel
theorem dX11_takeStep_171 : decode cX11_takeStep 171 = .ok (.goto 128, 3) := by decide +kernel
theorem dX11_takeStep_174 : decode cX11_takeStep 174 = .ok (.iload_n 3, 1) := by decide +kernel
theorem dX11_takeStep_175 : decode cX11_takeStep 175 = .ok (.bipush 120, 2) := by decide +kernel
theorem dX11_takeStep_177 : decode cX11_takeStep 177 = .ok (.if_icmp .ge 46, 3) := by decide +kernel
theorem dX11_takeStep_180 : decode cX11_takeStep 180 = .ok (.iload_n 3, 1) := by decide +kernel
theorem dX11_takeStep_181 : decode cX11_takeStep 181 = .ok (.bipush 84, 2) := by decide +kernel
theorem dX11_takeStep_183 : decode cX11_takeStep 183 = .ok (.isub, 1) := by decide +kernel
theorem dX11_takeStep_184 : decode cX11_takeStep 184 = .ok (.bipush 12, 2) := by decide +kernel
theorem dX11_takeStep_186 : decode cX11_takeStep 186 = .ok (.idiv, 1) := by decide +kernel
theorem dX11_takeStep_187 : decode cX11_takeStep 187 = .ok (.sipush 256, 3) := by decide +kernel
theorem dX11_takeStep_190 : decode cX11_takeStep 190 = .ok (.imul, 1) := by decide +kernel
theorem dX11_takeStep_191 : decode cX11_takeStep 191 = .ok (.iload 4, 2) := by decide +kernel
theorem dX11_takeStep_193 : decode cX11_takeStep 193 = .ok (.iadd, 1) := by decide +kernel
theorem dX11_takeStep_194 : decode cX11_takeStep 194 = .ok (.iconst 1, 1) := by decide +kernel
theorem dX11_takeStep_195 : decode cX11_takeStep 195 = .ok (.iadd, 1) := by decide +kernel
theorem dX11_takeStep_196 : decode cX11_takeStep 196 = .ok (.istore 5, 2) := by decide +kernel
theorem dX11_takeStep_198 : decode cX11_takeStep 198 = .ok (.iload_n 3, 1) := by decide +kernel
theorem dX11_takeStep_199 : decode cX11_takeStep 199 = .ok (.bipush 84, 2) := by decide +kernel
theorem dX11_takeStep_201 : decode cX11_takeStep 201 = .ok (.isub, 1) := by decide +kernel
theorem dX11_takeStep_202 : decode cX11_takeStep 202 = .ok (.bipush 12, 2) := by decide +kernel
theorem dX11_takeStep_204 : decode cX11_takeStep 204 = .ok (.irem, 1) := by decide +kernel
theorem dX11_takeStep_205 : decode cX11_takeStep 205 = .ok (.iconst 4, 1) := by decide +kernel
theorem dX11_takeStep_206 : decode cX11_takeStep 206 = .ok (.idiv, 1) := by decide +kernel
theorem dX11_takeStep_207 : decode cX11_takeStep 207 = .ok (.sipush 256, 3) := by decide +kernel
theorem dX11_takeStep_210 : decode cX11_takeStep 210 = .ok (.imul, 1) := by decide +kernel
theorem dX11_takeStep_211 : decode cX11_takeStep 211 = .ok (.aload_n 0, 1) := by decide +kernel
theorem dX11_takeStep_212 : decode cX11_takeStep 212 = .ok (.invokevirtual 216, 3) := by decide +kernel
theorem dX11_takeStep_215 : decode cX11_takeStep 215 = .ok (.iadd, 1) := by decide +kernel
theorem dX11_takeStep_216 : decode cX11_takeStep 216 = .ok (.iconst 1, 1) := by decide +kernel
theorem dX11_takeStep_217 : decode cX11_takeStep 217 = .ok (.iadd, 1) := by decide +kernel
theorem dX11_takeStep_218 : decode cX11_takeStep 218 = .ok (.istore 6, 2) := by decide +kernel
theorem dX11_takeStep_220 : decode cX11_takeStep 220 = .ok (.goto 79, 3) := by decide +kernel
theorem dX11_takeStep_223 : decode cX11_takeStep 223 = .ok (.iload_n 3, 1) := by decide +kernel
theorem dX11_takeStep_224 : decode cX11_takeStep 224 = .ok (.bipush 124, 2) := by decide +kernel
theorem dX11_takeStep_226 : decode cX11_takeStep 226 = .ok (.if_icmp .ge 41, 3) := by decide +kernel
theorem dX11_takeStep_229 : decode cX11_takeStep 229 = .ok (.aload_n 0, 1) := by decide +kernel
theorem dX11_takeStep_230 : decode cX11_takeStep 230 = .ok (.invokevirtual 216, 3) := by decide +kernel
theorem dX11_takeStep_233 : decode cX11_takeStep 233 = .ok (.istore 9, 2) := by decide +kernel
theorem dX11_takeStep_235 : decode cX11_takeStep 235 = .ok (.bipush 16, 2) := by decide +kernel
theorem dX11_takeStep_237 : decode cX11_takeStep 237 = .ok (.iload 4, 2) := by decide +kernel
theorem dX11_takeStep_239 : decode cX11_takeStep 239 = .ok (.imul, 1) := by decide +kernel
theorem dX11_takeStep_240 : decode cX11_takeStep 240 = .ok (.iload 9, 2) := by decide +kernel
theorem dX11_takeStep_242 : decode cX11_takeStep 242 = .ok (.bipush 16, 2) := by decide +kernel
theorem dX11_takeStep_244 : decode cX11_takeStep 244 = .ok (.idiv, 1) := by decide +kernel
theorem dX11_takeStep_245 : decode cX11_takeStep 245 = .ok (.iadd, 1) := by decide +kernel
theorem dX11_takeStep_246 : decode cX11_takeStep 246 = .ok (.istore 5, 2) := by decide +kernel
theorem dX11_takeStep_248 : decode cX11_takeStep 248 = .ok (.iload 9, 2) := by decide +kernel
theorem dX11_takeStep_250 : decode cX11_takeStep 250 = .ok (.bipush 16, 2) := by decide +kernel
theorem dX11_takeStep_252 : decode cX11_takeStep 252 = .ok (.irem, 1) := by decide +kernel
theorem dX11_takeStep_253 : decode cX11_takeStep 253 = .ok (.sipush 256, 3) := by decide +kernel
theorem dX11_takeStep_256 : decode cX11_takeStep 256 = .ok (.imul, 1) := by decide +kernel
theorem dX11_takeStep_257 : decode cX11_takeStep 257 = .ok (.aload_n 0, 1) := by decide +kernel
theorem dX11_takeStep_258 : decode cX11_takeStep 258 = .ok (.invokevirtual 216, 3) := by decide +kernel
theorem dX11_takeStep_261 : decode cX11_takeStep 261 = .ok (.iadd, 1) := by decide +kernel
theorem dX11_takeStep_262 : decode cX11_takeStep 262 = .ok (.istore 6, 2) := by decide +kernel
theorem dX11_takeStep_264 : decode cX11_takeStep 264 = .ok (.goto 35, 3) := by decide +kernel
theorem dX11_takeStep_267 : decode cX11_takeStep 267 = .ok (.sipush 256, 3) := by decide +kernel
theorem dX11_takeStep_270 : decode cX11_takeStep 270 = .ok (.iload 4, 2) := by decide +kernel
theorem dX11_takeStep_272 : decode cX11_takeStep 272 = .ok (.imul, 1) := by decide +kernel
theorem dX11_takeStep_273 : decode cX11_takeStep 273 = .ok (.aload_n 0, 1) := by decide +kernel
theorem dX11_takeStep_274 : decode cX11_takeStep 274 = .ok (.invokevirtual 216, 3) := by decide +kernel
theorem dX11_takeStep_277 : decode cX11_takeStep 277 = .ok (.iadd, 1) := by decide +kernel
theorem dX11_takeStep_278 : decode cX11_takeStep 278 = .ok (.istore 5, 2) := by decide +kernel
theorem dX11_takeStep_280 : decode cX11_takeStep 280 = .ok (.sipush 256, 3) := by decide +kernel
theorem dX11_takeStep_283 : decode cX11_takeStep 283 = .ok (.aload_n 0, 1) := by decide +kernel
theorem dX11_takeStep_284 : decode cX11_takeStep 284 = .ok (.invokevirtual 216, 3) := by decide +kernel
theorem dX11_takeStep_287 : decode cX11_takeStep 287 = .ok (.imul, 1) := by decide +kernel
theorem dX11_takeStep_288 : decode cX11_takeStep 288 = .ok (.istore 6, 2) := by decide +kernel
theorem dX11_takeStep_290 : decode cX11_takeStep 290 = .ok (.iload 6, 2) := by decide +kernel
theorem dX11_takeStep_292 : decode cX11_takeStep 292 = .ok (.aload_n 0, 1) := by decide +kernel
theorem dX11_takeStep_293 : decode cX11_takeStep 293 = .ok (.invokevirtual 216, 3) := by decide +kernel
theorem dX11_takeStep_296 : decode cX11_takeStep 296 = .ok (.iadd, 1) := by decide +kernel
theorem dX11_takeStep_297 : decode cX11_takeStep 297 = .ok (.istore 6, 2) := by decide +kernel
theorem dX11_takeStep_299 : decode cX11_takeStep 299 = .ok (.bipush 16, 2) := by decide +kernel
theorem dX11_takeStep_301 : decode cX11_takeStep 301 = .ok (.iload_n 1, 1) := by decide +kernel
theorem dX11_takeStep_302 : decode cX11_takeStep 302 = .ok (.imul, 1) := by decide +kernel
theorem dX11_takeStep_303 : decode cX11_takeStep 303 = .ok (.iload_n 2, 1) := by decide +kernel
theorem dX11_takeStep_304 : decode cX11_takeStep 304 = .ok (.iadd, 1) := by decide +kernel
theorem dX11_takeStep_305 : decode cX11_takeStep 305 = .ok (.istore 9, 2) := by decide +kernel
theorem dX11_takeStep_307 : decode cX11_takeStep 307 = .ok (.aload_n 0, 1) := by decide +kernel
theorem dX11_takeStep_308 : decode cX11_takeStep 308 = .ok (.getfield 47, 3) := by decide +kernel
theorem dX11_takeStep_311 : decode cX11_takeStep 311 = .ok (.iload 9, 2) := by decide +kernel
theorem dX11_takeStep_313 : decode cX11_takeStep 313 = .ok (.iload_n 2, 1) := by decide +kernel
theorem dX11_takeStep_314 : decode cX11_takeStep 314 = .ok (.ifCond .le 15, 3) := by decide +kernel
theorem dX11_takeStep_317 : decode cX11_takeStep 317 = .ok (.aload_n 0, 1) := by decide +kernel
theorem dX11_takeStep_318 : decode cX11_takeStep 318 = .ok (.getfield 47, 3) := by decide +kernel
theorem dX11_takeStep_321 : decode cX11_takeStep 321 = .ok (.iload 9, 2) := by decide +kernel
theorem dX11_takeStep_323 : decode cX11_takeStep 323 = .ok (.iconst 1, 1) := by decide +kernel
theorem dX11_takeStep_324 : decode cX11_takeStep 324 = .ok (.isub, 1) := by decide +kernel
theorem dX11_takeStep_325 : decode cX11_takeStep 325 = .ok (.iaload, 1) := by decide +kernel
theorem dX11_takeStep_326 : decode cX11_takeStep 326 = .ok (.goto 4, 3) := by decide +kernel
theorem dX11_takeStep_329 : decode cX11_takeStep 329 = .ok (.iconst 0, 1) := by decide +kernel
theorem dX11_takeStep_330 : decode cX11_takeStep 330 = .ok (.iload 7, 2) := by decide +kernel
theorem dX11_takeStep_332 : decode cX11_takeStep 332 = .ok (.ifCond .eq 8, 3) := by decide +kernel
theorem dX11_takeStep_335 : decode cX11_takeStep 335 = .ok (.iload 5, 2) := by decide +kernel
theorem dX11_takeStep_337 : decode cX11_takeStep 337 = .ok (.goto 6, 3) := by decide +kernel
theorem dX11_takeStep_340 : decode cX11_takeStep 340 = .ok (.iload 5, 2) := by decide +kernel
theorem dX11_takeStep_342 : decode cX11_takeStep 342 = .ok (.ineg, 1) := by decide +kernel
theorem dX11_takeStep_343 : decode cX11_takeStep 343 = .ok (.iadd, 1) := by decide +kernel
theorem dX11_takeStep_344 : decode cX11_takeStep 344 = .ok (.iastore, 1) := by decide +kernel
theorem dX11_takeStep_345 : decode cX11_takeStep 345 = .ok (.aload_n 0, 1) := by decide +kernel
theorem dX11_takeStep_346 : decode cX11_takeStep 346 = .ok (.getfield 50, 3) := by decide +kernel
theorem dX11_takeStep_349 : decode cX11_takeStep 349 = .ok (.iload 9, 2) := by decide +kernel
theorem dX11_takeStep_351 : decode cX11_takeStep 351 = .ok (.iload_n 2, 1) := by decide +kernel
theorem dX11_takeStep_352 : decode cX11_takeStep 352 = .ok (.ifCond .le 15, 3) := by decide +kernel
theorem dX11_takeStep_355 : decode cX11_takeStep 355 = .ok (.aload_n 0, 1) := by decide +kernel
theorem dX11_takeStep_356 : decode cX11_takeStep 356 = .ok (.getfield 50, 3) := by decide +kernel
theorem dX11_takeStep_359 : decode cX11_takeStep 359 = .ok (.iload 9, 2) := by decide +kernel
theorem dX11_takeStep_361 : decode cX11_takeStep 361 = .ok (.iconst 1, 1) := by decide +kernel
theorem dX11_takeStep_362 : decode cX11_takeStep 362 = .ok (.isub, 1) := by decide +kernel
theorem dX11_takeStep_363 : decode cX11_takeStep 363 = .ok (.iaload, 1) := by decide +kernel
theorem dX11_takeStep_364 : decode cX11_takeStep 364 = .ok (.goto 4, 3) := by decide +kernel
theorem dX11_takeStep_367 : decode cX11_takeStep 367 = .ok (.iconst 0, 1) := by decide +kernel
theorem dX11_takeStep_368 : decode cX11_takeStep 368 = .ok (.iload 8, 2) := by decide +kernel
theorem dX11_takeStep_370 : decode cX11_takeStep 370 = .ok (.ifCond .eq 8, 3) := by decide +kernel
theorem dX11_takeStep_373 : decode cX11_takeStep 373 = .ok (.iload 6, 2) := by decide +kernel
theorem dX11_takeStep_375 : decode cX11_takeStep 375 = .ok (.goto 6, 3) := by decide +kernel
theorem dX11_takeStep_378 : decode cX11_takeStep 378 = .ok (.iload 6, 2) := by decide +kernel
theorem dX11_takeStep_380 : decode cX11_takeStep 380 = .ok (.ineg, 1) := by decide +kernel
theorem dX11_takeStep_381 : decode cX11_takeStep 381 = .ok (.iadd, 1) := by decide +kernel
theorem dX11_takeStep_382 : decode cX11_takeStep 382 = .ok (.iastore, 1) := by decide +kernel
theorem dX11_takeStep_383 : decode cX11_takeStep 383 = .ok (.aload_n 0, 1) := by decide +kernel
theorem dX11_takeStep_384 : decode cX11_takeStep 384 = .ok (.aload_n 0, 1) := by decide +kernel
theorem dX11_takeStep_385 : decode cX11_takeStep 385 = .ok (.getfield 47, 3) := by decide +kernel
theorem dX11_takeStep_388 : decode cX11_takeStep 388 = .ok (.iload 9, 2) := by decide +kernel
theorem dX11_takeStep_390 : decode cX11_takeStep 390 = .ok (.iaload, 1) := by decide +kernel
theorem dX11_takeStep_391 : decode cX11_takeStep 391 = .ok (.invokestatic 98, 3) := by decide +kernel
theorem dX11_takeStep_394 : decode cX11_takeStep 394 = .ok (.ifCond .ne 20, 3) := by decide +kernel
theorem dX11_takeStep_397 : decode cX11_takeStep 397 = .ok (.aload_n 0, 1) := by decide +kernel
theorem dX11_takeStep_398 : decode cX11_takeStep 398 = .ok (.getfield 50, 3) := by decide +kernel
theorem dX11_takeStep_401 : decode cX11_takeStep 401 = .ok (.iload 9, 2) := by decide +kernel
theorem dX11_takeStep_403 : decode cX11_takeStep 403 = .ok (.iaload, 1) := by decide +kernel
theorem dX11_takeStep_404 : decode cX11_takeStep 404 = .ok (.invokestatic 98, 3) := by decide +kernel
theorem dX11_takeStep_407 : decode cX11_takeStep 407 = .ok (.ifCond .ne 7, 3) := by decide +kernel
theorem dX11_takeStep_410 : decode cX11_takeStep 410 = .ok (.iconst 1, 1) := by decide +kernel
theorem dX11_takeStep_411 : decode cX11_takeStep 411 = .ok (.goto 4, 3) := by decide +kernel
theorem dX11_takeStep_414 : decode cX11_takeStep 414 = .ok (.iconst 0, 1) := by decide +kernel
theorem dX11_takeStep_415 : decode cX11_takeStep 415 = .ok (.invokevirtual 219, 3) := by decide +kernel
theorem dX11_takeStep_418 : decode cX11_takeStep 418 = .ok (.return_, 1) := by decide +kernel
theorem dX11_takeGlyphs_0 : decode cX11_takeGlyphs 0 = .ok (.aload_n 0, 1) := by decide +kernel
theorem dX11_takeGlyphs_1 : decode cX11_takeGlyphs 1 = .ok (.aload_n 0, 1) := by decide +kernel
theorem dX11_takeGlyphs_2 : decode cX11_takeGlyphs 2 = .ok (.invokevirtual 216, 3) := by decide +kernel
theorem dX11_takeGlyphs_5 : decode cX11_takeGlyphs 5 = .ok (.putfield 241, 3) := by decide +kernel
theorem dX11_takeGlyphs_8 : decode cX11_takeGlyphs 8 = .ok (.aload_n 0, 1) := by decide +kernel
theorem dX11_takeGlyphs_9 : decode cX11_takeGlyphs 9 = .ok (.aload_n 0, 1) := by decide +kernel
theorem dX11_takeGlyphs_10 : decode cX11_takeGlyphs 10 = .ok (.getfield 241, 3) := by decide +kernel
theorem dX11_takeGlyphs_13 : decode cX11_takeGlyphs 13 = .ok (.iconst 1, 1) := by decide +kernel
theorem dX11_takeGlyphs_14 : decode cX11_takeGlyphs 14 = .ok (.if_icmp .lt 16, 3) := by decide +kernel
theorem dX11_takeGlyphs_17 : decode cX11_takeGlyphs 17 = .ok (.aload_n 0, 1) := by decide +kernel
theorem dX11_takeGlyphs_18 : decode cX11_takeGlyphs 18 = .ok (.getfield 241, 3) := by decide +kernel
theorem dX11_takeGlyphs_21 : decode cX11_takeGlyphs 21 = .ok (.bipush 6, 2) := by decide +kernel
theorem dX11_takeGlyphs_23 : decode cX11_takeGlyphs 23 = .ok (.if_icmp .gt 7, 3) := by decide +kernel
theorem dX11_takeGlyphs_26 : decode cX11_takeGlyphs 26 = .ok (.iconst 1, 1) := by decide +kernel
theorem dX11_takeGlyphs_27 : decode cX11_takeGlyphs 27 = .ok (.goto 4, 3) := by decide +kernel
theorem dX11_takeGlyphs_30 : decode cX11_takeGlyphs 30 = .ok (.iconst 0, 1) := by decide +kernel
theorem dX11_takeGlyphs_31 : decode cX11_takeGlyphs 31 = .ok (.invokevirtual 219, 3) := by decide +kernel
theorem dX11_takeGlyphs_34 : decode cX11_takeGlyphs 34 = .ok (.aload_n 0, 1) := by decide +kernel
theorem dX11_takeGlyphs_35 : decode cX11_takeGlyphs 35 = .ok (.getfield 209, 3) := by decide +kernel
theorem dX11_takeGlyphs_38 : decode cX11_takeGlyphs 38 = .ok (.ifCond .eq 4, 3) := by decide +kernel
theorem dX11_takeGlyphs_41 : decode cX11_takeGlyphs 41 = .ok (.return_, 1) := by decide +kernel
theorem dX11_takeGlyphs_42 : decode cX11_takeGlyphs 42 = .ok (.iconst 0, 1) := by decide +kernel
theorem dX11_takeGlyphs_43 : decode cX11_takeGlyphs 43 = .ok (.istore_n 1, 1) := by decide +kernel
theorem dX11_takeGlyphs_44 : decode cX11_takeGlyphs 44 = .ok (.iload_n 1, 1) := by decide +kernel
theorem dX11_takeGlyphs_45 : decode cX11_takeGlyphs 45 = .ok (.aload_n 0, 1) := by decide +kernel
theorem dX11_takeGlyphs_46 : decode cX11_takeGlyphs 46 = .ok (.getfield 241, 3) := by decide +kernel
theorem dX11_takeGlyphs_49 : decode cX11_takeGlyphs 49 = .ok (.if_icmp .ge 38, 3) := by decide +kernel
theorem dX11_takeGlyphs_52 : decode cX11_takeGlyphs 52 = .ok (.aload_n 0, 1) := by decide +kernel
theorem dX11_takeGlyphs_53 : decode cX11_takeGlyphs 53 = .ok (.getfield 41, 3) := by decide +kernel
theorem dX11_takeGlyphs_56 : decode cX11_takeGlyphs 56 = .ok (.iload_n 1, 1) := by decide +kernel
theorem dX11_takeGlyphs_57 : decode cX11_takeGlyphs 57 = .ok (.aload_n 0, 1) := by decide +kernel
theorem dX11_takeGlyphs_58 : decode cX11_takeGlyphs 58 = .ok (.invokevirtual 216, 3) := by decide +kernel
theorem dX11_takeGlyphs_61 : decode cX11_takeGlyphs 61 = .ok (.iastore, 1) := by decide +kernel
theorem dX11_takeGlyphs_62 : decode cX11_takeGlyphs 62 = .ok (.aload_n 0, 1) := by decide +kernel
theorem dX11_takeGlyphs_63 : decode cX11_takeGlyphs 63 = .ok (.aload_n 0, 1) := by decide +kernel
theorem dX11_takeGlyphs_64 : decode cX11_takeGlyphs 64 = .ok (.getfield 41, 3) := by decide +kernel
theorem dX11_takeGlyphs_67 : decode cX11_takeGlyphs 67 = .ok (.iload_n 1, 1) := by decide +kernel
theorem dX11_takeGlyphs_68 : decode cX11_takeGlyphs 68 = .ok (.iaload, 1) := by decide +kernel
theorem dX11_takeGlyphs_69 : decode cX11_takeGlyphs 69 = .ok (.iconst 4, 1) := by decide +kernel
theorem dX11_takeGlyphs_70 : decode cX11_takeGlyphs 70 = .ok (.if_icmp .gt 7, 3) := by decide +kernel
theorem dX11_takeGlyphs_73 : decode cX11_takeGlyphs 73 = .ok (.iconst 1, 1) := by decide +kernel
theorem dX11_takeGlyphs_74 : decode cX11_takeGlyphs 74 = .ok (.goto 4, 3) := by decide +kernel
theorem dX11_takeGlyphs_77 : decode cX11_takeGlyphs 77 = .ok (.iconst 0, 1) := by decide +kernel
theorem dX11_takeGlyphs_78 : decode cX11_takeGlyphs 78 = .ok (.invokevirtual 219, 3) := by decide +kernel
theorem dX11_takeGlyphs_81 : decode cX11_takeGlyphs 81 = .ok (.iinc 1 1, 3) := by decide +kernel
theorem dX11_takeGlyphs_84 : decode cX11_takeGlyphs 84 = .ok (.goto (-40), 3) := by decide +kernel
theorem dX11_takeGlyphs_87 : decode cX11_takeGlyphs 87 = .ok (.iconst 0, 1) := by decide +kernel
theorem dX11_takeGlyphs_88 : decode cX11_takeGlyphs 88 = .ok (.istore_n 1, 1) := by decide +kernel
theorem dX11_takeGlyphs_89 : decode cX11_takeGlyphs 89 = .ok (.iload_n 1, 1) := by decide +kernel
theorem dX11_takeGlyphs_90 : decode cX11_takeGlyphs 90 = .ok (.aload_n 0, 1) := by decide +kernel
theorem dX11_takeGlyphs_91 : decode cX11_takeGlyphs 91 = .ok (.getfield 241, 3) := by decide +kernel
theorem dX11_takeGlyphs_94 : decode cX11_takeGlyphs 94 = .ok (.if_icmp .ge 21, 3) := by decide +kernel
theorem dX11_takeGlyphs_97 : decode cX11_takeGlyphs 97 = .ok (.aload_n 0, 1) := by decide +kernel
theorem dX11_takeGlyphs_98 : decode cX11_takeGlyphs 98 = .ok (.getfield 209, 3) := by decide +kernel
theorem dX11_takeGlyphs_101 : decode cX11_takeGlyphs 101 = .ok (.ifCond .ne 14, 3) := by decide +kernel
theorem dX11_takeGlyphs_104 : decode cX11_takeGlyphs 104 = .ok (.aload_n 0, 1) := by decide +kernel
theorem dX11_takeGlyphs_105 : decode cX11_takeGlyphs 105 = .ok (.iload_n 1, 1) := by decide +kernel
theorem dX11_takeGlyphs_106 : decode cX11_takeGlyphs 106 = .ok (.invokevirtual 244, 3) := by decide +kernel
theorem dX11_takeGlyphs_109 : decode cX11_takeGlyphs 109 = .ok (.iinc 1 1, 3) := by decide +kernel
theorem dX11_takeGlyphs_112 : decode cX11_takeGlyphs 112 = .ok (.goto (-23), 3) := by decide +kernel
theorem dX11_takeGlyphs_115 : decode cX11_takeGlyphs 115 = .ok (.iconst 0, 1) := by decide +kernel
theorem dX11_takeGlyphs_116 : decode cX11_takeGlyphs 116 = .ok (.istore_n 1, 1) := by decide +kernel
theorem dX11_takeGlyphs_117 : decode cX11_takeGlyphs 117 = .ok (.iload_n 1, 1) := by decide +kernel
theorem dX11_takeGlyphs_118 : decode cX11_takeGlyphs 118 = .ok (.aload_n 0, 1) := by decide +kernel
theorem dX11_takeGlyphs_119 : decode cX11_takeGlyphs 119 = .ok (.getfield 241, 3) := by decide +kernel
theorem dX11_takeGlyphs_122 : decode cX11_takeGlyphs 122 = .ok (.if_icmp .ge 49, 3) := by decide +kernel
theorem dX11_takeGlyphs_125 : decode cX11_takeGlyphs 125 = .ok (.aload_n 0, 1) := by decide +kernel
theorem dX11_takeGlyphs_126 : decode cX11_takeGlyphs 126 = .ok (.getfield 209, 3) := by decide +kernel
theorem dX11_takeGlyphs_129 : decode cX11_takeGlyphs 129 = .ok (.ifCond .ne 42, 3) := by decide +kernel
theorem dX11_takeGlyphs_132 : decode cX11_takeGlyphs 132 = .ok (.iconst 0, 1) := by decide +kernel
theorem dX11_takeGlyphs_133 : decode cX11_takeGlyphs 133 = .ok (.istore_n 2, 1) := by decide +kernel
theorem dX11_takeGlyphs_134 : decode cX11_takeGlyphs 134 = .ok (.iload_n 2, 1) := by decide +kernel
theorem dX11_takeGlyphs_135 : decode cX11_takeGlyphs 135 = .ok (.aload_n 0, 1) := by decide +kernel
theorem dX11_takeGlyphs_136 : decode cX11_takeGlyphs 136 = .ok (.getfield 44, 3) := by decide +kernel
theorem dX11_takeGlyphs_139 : decode cX11_takeGlyphs 139 = .ok (.iload_n 1, 1) := by decide +kernel
theorem dX11_takeGlyphs_140 : decode cX11_takeGlyphs 140 = .ok (.iaload, 1) := by decide +kernel
theorem dX11_takeGlyphs_141 : decode cX11_takeGlyphs 141 = .ok (.if_icmp .ge 24, 3) := by decide +kernel
theorem dX11_takeGlyphs_144 : decode cX11_takeGlyphs 144 = .ok (.aload_n 0, 1) := by decide +kernel
theorem dX11_takeGlyphs_145 : decode cX11_takeGlyphs 145 = .ok (.getfield 53, 3) := by decide +kernel
theorem dX11_takeGlyphs_148 : decode cX11_takeGlyphs 148 = .ok (.bipush 16, 2) := by decide +kernel
theorem dX11_takeGlyphs_150 : decode cX11_takeGlyphs 150 = .ok (.iload_n 1, 1) := by decide +kernel
theorem dX11_takeGlyphs_151 : decode cX11_takeGlyphs 151 = .ok (.imul, 1) := by decide +kernel
theorem dX11_takeGlyphs_152 : decode cX11_takeGlyphs 152 = .ok (.iload_n 2, 1) := by decide +kernel
theorem dX11_takeGlyphs_153 : decode cX11_takeGlyphs 153 = .ok (.iadd, 1) := by decide +kernel
theorem dX11_takeGlyphs_154 : decode cX11_takeGlyphs 154 = .ok (.aload_n 0, 1) := by decide +kernel
theorem dX11_takeGlyphs_155 : decode cX11_takeGlyphs 155 = .ok (.invokevirtual 216, 3) := by decide +kernel
theorem dX11_takeGlyphs_158 : decode cX11_takeGlyphs 158 = .ok (.iastore, 1) := by decide +kernel
theorem dX11_takeGlyphs_159 : decode cX11_takeGlyphs 159 = .ok (.iinc 2 1, 3) := by decide +kernel
theorem dX11_takeGlyphs_162 : decode cX11_takeGlyphs 162 = .ok (.goto (-28), 3) := by decide +kernel
theorem dX11_takeGlyphs_165 : decode cX11_takeGlyphs 165 = .ok (.iinc 1 1, 3) := by decide +kernel
theorem dX11_takeGlyphs_168 : decode cX11_takeGlyphs 168 = .ok (.goto (-51), 3) := by decide +kernel
theorem dX11_takeGlyphs_171 : decode cX11_takeGlyphs 171 = .ok (.iconst 0, 1) := by decide +kernel
theorem dX11_takeGlyphs_172 : decode cX11_takeGlyphs 172 = .ok (.istore_n 1, 1) := by decide +kernel
theorem dX11_takeGlyphs_173 : decode cX11_takeGlyphs 173 = .ok (.iload_n 1, 1) := by decide +kernel
theorem dX11_takeGlyphs_174 : decode cX11_takeGlyphs 174 = .ok (.aload_n 0, 1) := by decide +kernel
theorem dX11_takeGlyphs_175 : decode cX11_takeGlyphs 175 = .ok (.getfield 241, 3) := by decide +kernel
theorem dX11_takeGlyphs_178 : decode cX11_takeGlyphs 178 = .ok (.if_icmp .ge 40, 3) := by decide +kernel
theorem dX11_takeGlyphs_181 : decode cX11_takeGlyphs 181 = .ok (.aload_n 0, 1) := by decide +kernel
theorem dX11_takeGlyphs_182 : decode cX11_takeGlyphs 182 = .ok (.getfield 209, 3) := by decide +kernel
theorem dX11_takeGlyphs_185 : decode cX11_takeGlyphs 185 = .ok (.ifCond .ne 33, 3) := by decide +kernel
theorem dX11_takeGlyphs_188 : decode cX11_takeGlyphs 188 = .ok (.iconst 0, 1) := by decide +kernel
theorem dX11_takeGlyphs_189 : decode cX11_takeGlyphs 189 = .ok (.istore_n 2, 1) := by decide +kernel
theorem dX11_takeGlyphs_190 : decode cX11_takeGlyphs 190 = .ok (.iload_n 2, 1) := by decide +kernel
theorem dX11_takeGlyphs_191 : decode cX11_takeGlyphs 191 = .ok (.aload_n 0, 1) := by decide +kernel
theorem dX11_takeGlyphs_192 : decode cX11_takeGlyphs 192 = .ok (.getfield 44, 3) := by decide +kernel
theorem dX11_takeGlyphs_195 : decode cX11_takeGlyphs 195 = .ok (.iload_n 1, 1) := by decide +kernel
theorem dX11_takeGlyphs_196 : decode cX11_takeGlyphs 196 = .ok (.iaload, 1) := by decide +kernel
theorem dX11_takeGlyphs_197 : decode cX11_takeGlyphs 197 = .ok (.if_icmp .ge 15, 3) := by decide +kernel
theorem dX11_takeGlyphs_200 : decode cX11_takeGlyphs 200 = .ok (.aload_n 0, 1) := by decide +kernel
theorem dX11_takeGlyphs_201 : decode cX11_takeGlyphs 201 = .ok (.iload_n 1, 1) := by decide +kernel
theorem dX11_takeGlyphs_202 : decode cX11_takeGlyphs 202 = .ok (.iload_n 2, 1) := by decide +kernel
theorem dX11_takeGlyphs_203 : decode cX11_takeGlyphs 203 = .ok (.invokevirtual 247, 3) := by decide +kernel
theorem dX11_takeGlyphs_206 : decode cX11_takeGlyphs 206 = .ok (.iinc 2 1, 3) := by decide +kernel
theorem dX11_takeGlyphs_209 : decode cX11_takeGlyphs 209 = .ok (.goto (-19), 3) := by decide +kernel
theorem dX11_takeGlyphs_212 : decode cX11_takeGlyphs 212 = .ok (.iinc 1 1, 3) := by decide +kernel
theorem dX11_takeGlyphs_215 : decode cX11_takeGlyphs 215 = .ok (.goto (-42), 3) := by decide +kernel
theorem dX11_takeGlyphs_218 : decode cX11_takeGlyphs 218 = .ok (.aload_n 0, 1) := by decide +kernel
theorem dX11_takeGlyphs_219 : decode cX11_takeGlyphs 219 = .ok (.aload_n 0, 1) := by decide +kernel
theorem dX11_takeGlyphs_220 : decode cX11_takeGlyphs 220 = .ok (.getfield 203, 3) := by decide +kernel
theorem dX11_takeGlyphs_223 : decode cX11_takeGlyphs 223 = .ok (.aload_n 0, 1) := by decide +kernel
theorem dX11_takeGlyphs_224 : decode cX11_takeGlyphs 224 = .ok (.getfield 206, 3) := by decide +kernel
theorem dX11_takeGlyphs_227 : decode cX11_takeGlyphs 227 = .ok (.if_icmp .ne 7, 3) := by decide +kernel
theorem dX11_takeGlyphs_230 : decode cX11_takeGlyphs 230 = .ok (.iconst 1, 1) := by decide +kernel
theorem dX11_takeGlyphs_231 : decode cX11_takeGlyphs 231 = .ok (.goto 4, 3) := by decide +kernel
theorem dX11_takeGlyphs_234 : decode cX11_takeGlyphs 234 = .ok (.iconst 0, 1) := by decide +kernel
theorem dX11_takeGlyphs_235 : decode cX11_takeGlyphs 235 = .ok (.invokevirtual 219, 3) := by decide +kernel
theorem dX11_takeGlyphs_238 : decode cX11_takeGlyphs 238 = .ok (.return_, 1) := by decide +kernel
theorem dX11_takeSizes_0 : decode cX11_takeSizes 0 = .ok (.aload_n 0, 1) := by decide +kernel
theorem dX11_takeSizes_1 : decode cX11_takeSizes 1 = .ok (.getfield 44, 3) := by decide +kernel
theorem dX11_takeSizes_4 : decode cX11_takeSizes 4 = .ok (.iload_n 1, 1) := by decide +kernel
theorem dX11_takeSizes_5 : decode cX11_takeSizes 5 = .ok (.iconst 0, 1) := by decide +kernel
theorem dX11_takeSizes_6 : decode cX11_takeSizes 6 = .ok (.iastore, 1) := by decide +kernel
theorem dX11_takeSizes_7 : decode cX11_takeSizes 7 = .ok (.iconst 0, 1) := by decide +kernel
theorem dX11_takeSizes_8 : decode cX11_takeSizes 8 = .ok (.istore_n 2, 1) := by decide +kernel
theorem dX11_takeSizes_9 : decode cX11_takeSizes 9 = .ok (.iload_n 2, 1) := by decide +kernel
theorem dX11_takeSizes_10 : decode cX11_takeSizes 10 = .ok (.aload_n 0, 1) := by decide +kernel
theorem dX11_takeSizes_11 : decode cX11_takeSizes 11 = .ok (.getfield 41, 3) := by decide +kernel
theorem dX11_takeSizes_14 : decode cX11_takeSizes 14 = .ok (.iload_n 1, 1) := by decide +kernel
theorem dX11_takeSizes_15 : decode cX11_takeSizes 15 = .ok (.iaload, 1) := by decide +kernel
theorem dX11_takeSizes_16 : decode cX11_takeSizes 16 = .ok (.if_icmp .ge 97, 3) := by decide +kernel
theorem dX11_takeSizes_19 : decode cX11_takeSizes 19 = .ok (.aload_n 0, 1) := by decide +kernel
theorem dX11_takeSizes_20 : decode cX11_takeSizes 20 = .ok (.getfield 209, 3) := by decide +kernel
theorem dX11_takeSizes_23 : decode cX11_takeSizes 23 = .ok (.ifCond .ne 90, 3) := by decide +kernel
theorem dX11_takeSizes_26 : decode cX11_takeSizes 26 = .ok (.aload_n 0, 1) := by decide +kernel
theorem dX11_takeSizes_27 : decode cX11_takeSizes 27 = .ok (.invokevirtual 250, 3) := by decide +kernel
theorem dX11_takeSizes_30 : decode cX11_takeSizes 30 = .ok (.istore_n 3, 1) := by decide +kernel
theorem dX11_takeSizes_31 : decode cX11_takeSizes 31 = .ok (.aload_n 0, 1) := by decide +kernel
theorem dX11_takeSizes_32 : decode cX11_takeSizes 32 = .ok (.iload_n 3, 1) := by decide +kernel
theorem dX11_takeSizes_33 : decode cX11_takeSizes 33 = .ok (.iconst 1, 1) := by decide +kernel
theorem dX11_takeSizes_34 : decode cX11_takeSizes 34 = .ok (.if_icmp .lt 20, 3) := by decide +kernel
theorem dX11_takeSizes_37 : decode cX11_takeSizes 37 = .ok (.aload_n 0, 1) := by decide +kernel
theorem dX11_takeSizes_38 : decode cX11_takeSizes 38 = .ok (.getfield 44, 3) := by decide +kernel
theorem dX11_takeSizes_41 : decode cX11_takeSizes 41 = .ok (.iload_n 1, 1) := by decide +kernel
theorem dX11_takeSizes_42 : decode cX11_takeSizes 42 = .ok (.iaload, 1) := by decide +kernel
theorem dX11_takeSizes_43 : decode cX11_takeSizes 43 = .ok (.iload_n 3, 1) := by decide +kernel
theorem dX11_takeSizes_44 : decode cX11_takeSizes 44 = .ok (.iadd, 1) := by decide +kernel
theorem dX11_takeSizes_45 : decode cX11_takeSizes 45 = .ok (.bipush 16, 2) := by decide +kernel
theorem dX11_takeSizes_47 : decode cX11_takeSizes 47 = .ok (.if_icmp .gt 7, 3) := by decide +kernel
theorem dX11_takeSizes_50 : decode cX11_takeSizes 50 = .ok (.iconst 1, 1) := by decide +kernel
theorem dX11_takeSizes_51 : decode cX11_takeSizes 51 = .ok (.goto 4, 3) := by decide +kernel
theorem dX11_takeSizes_54 : decode cX11_takeSizes 54 = .ok (.iconst 0, 1) := by decide +kernel
theorem dX11_takeSizes_55 : decode cX11_takeSizes 55 = .ok (.invokevirtual 219, 3) := by decide +kernel
theorem dX11_takeSizes_58 : decode cX11_takeSizes 58 = .ok (.iconst 0, 1) := by decide +kernel
theorem dX11_takeSizes_59 : decode cX11_takeSizes 59 = .ok (.istore 4, 2) := by decide +kernel
theorem dX11_takeSizes_61 : decode cX11_takeSizes 61 = .ok (.iload 4, 2) := by decide +kernel
theorem dX11_takeSizes_63 : decode cX11_takeSizes 63 = .ok (.iload_n 3, 1) := by decide +kernel
theorem dX11_takeSizes_64 : decode cX11_takeSizes 64 = .ok (.if_icmp .ge 43, 3) := by decide +kernel
theorem dX11_takeSizes_67 : decode cX11_takeSizes 67 = .ok (.aload_n 0, 1) := by decide +kernel
theorem dX11_takeSizes_68 : decode cX11_takeSizes 68 = .ok (.getfield 209, 3) := by decide +kernel
theorem dX11_takeSizes_71 : decode cX11_takeSizes 71 = .ok (.ifCond .ne 36, 3) := by decide +kernel
theorem dX11_takeSizes_74 : decode cX11_takeSizes 74 = .ok (.aload_n 0, 1) := by decide +kernel
theorem dX11_takeSizes_75 : decode cX11_takeSizes 75 = .ok (.getfield 56, 3) := by decide +kernel
theorem dX11_takeSizes_78 : decode cX11_takeSizes 78 = .ok (.bipush 16, 2) := by decide +kernel
theorem dX11_takeSizes_80 : decode cX11_takeSizes 80 = .ok (.iload_n 1, 1) := by decide +kernel
theorem dX11_takeSizes_81 : decode cX11_takeSizes 81 = .ok (.imul, 1) := by decide +kernel
theorem dX11_takeSizes_82 : decode cX11_takeSizes 82 = .ok (.aload_n 0, 1) := by decide +kernel
theorem dX11_takeSizes_83 : decode cX11_takeSizes 83 = .ok (.getfield 44, 3) := by decide +kernel
theorem dX11_takeSizes_86 : decode cX11_takeSizes 86 = .ok (.iload_n 1, 1) := by decide +kernel
theorem dX11_takeSizes_87 : decode cX11_takeSizes 87 = .ok (.iaload, 1) := by decide +kernel
theorem dX11_takeSizes_88 : decode cX11_takeSizes 88 = .ok (.iadd, 1) := by decide +kernel
theorem dX11_takeSizes_89 : decode cX11_takeSizes 89 = .ok (.iload_n 2, 1) := by decide +kernel
theorem dX11_takeSizes_90 : decode cX11_takeSizes 90 = .ok (.iastore, 1) := by decide +kernel
theorem dX11_takeSizes_91 : decode cX11_takeSizes 91 = .ok (.aload_n 0, 1) := by decide +kernel
theorem dX11_takeSizes_92 : decode cX11_takeSizes 92 = .ok (.getfield 44, 3) := by decide +kernel
theorem dX11_takeSizes_95 : decode cX11_takeSizes 95 = .ok (.iload_n 1, 1) := by decide +kernel
theorem dX11_takeSizes_96 : decode cX11_takeSizes 96 = .ok (.dup2, 1) := by decide +kernel
theorem dX11_takeSizes_97 : decode cX11_takeSizes 97 = .ok (.iaload, 1) := by decide +kernel
theorem dX11_takeSizes_98 : decode cX11_takeSizes 98 = .ok (.iconst 1, 1) := by decide +kernel
theorem dX11_takeSizes_99 : decode cX11_takeSizes 99 = .ok (.iadd, 1) := by decide +kernel
theorem dX11_takeSizes_100 : decode cX11_takeSizes 100 = .ok (.iastore, 1) := by decide +kernel
theorem dX11_takeSizes_101 : decode cX11_takeSizes 101 = .ok (.iinc 4 1, 3) := by decide +kernel
theorem dX11_takeSizes_104 : decode cX11_takeSizes 104 = .ok (.goto (-43), 3) := by decide +kernel
theorem dX11_takeSizes_107 : decode cX11_takeSizes 107 = .ok (.iinc 2 1, 3) := by decide +kernel
theorem dX11_takeSizes_110 : decode cX11_takeSizes 110 = .ok (.goto (-101), 3) := by decide +kernel
theorem dX11_takeSizes_113 : decode cX11_takeSizes 113 = .ok (.return_, 1) := by decide +kernel
theorem dX11_takeTables_0 : decode cX11_takeTables 0 = .ok (.iconst 0, 1) := by decide +kernel
theorem dX11_takeTables_1 : decode cX11_takeTables 1 = .ok (.istore_n 1, 1) := by decide +kernel
theorem dX11_takeTables_2 : decode cX11_takeTables 2 = .ok (.aload_n 0, 1) := by decide +kernel
theorem dX11_takeTables_3 : decode cX11_takeTables 3 = .ok (.iconst 0, 1) := by decide +kernel
theorem dX11_takeTables_4 : decode cX11_takeTables 4 = .ok (.putfield 241, 3) := by decide +kernel
theorem dX11_takeTables_7 : decode cX11_takeTables 7 = .ok (.aload_n 0, 1) := by decide +kernel
theorem dX11_takeTables_8 : decode cX11_takeTables 8 = .ok (.iconst 1, 1) := by decide +kernel
theorem dX11_takeTables_9 : decode cX11_takeTables 9 = .ok (.putfield 213, 3) := by decide +kernel
theorem dX11_takeTables_12 : decode cX11_takeTables 12 = .ok (.iconst 0, 1) := by decide +kernel
theorem dX11_takeTables_13 : decode cX11_takeTables 13 = .ok (.istore_n 2, 1) := by decide +kernel
theorem dX11_takeTables_14 : decode cX11_takeTables 14 = .ok (.iload_n 2, 1) := by decide +kernel
theorem dX11_takeTables_15 : decode cX11_takeTables 15 = .ok (.bipush 7, 2) := by decide +kernel
theorem dX11_takeTables_17 : decode cX11_takeTables 17 = .ok (.if_icmp .ge 82, 3) := by decide +kernel
theorem dX11_takeTables_20 : decode cX11_takeTables 20 = .ok (.aload_n 0, 1) := by decide +kernel
theorem dX11_takeTables_21 : decode cX11_takeTables 21 = .ok (.getfield 62, 3) := by decide +kernel
theorem dX11_takeTables_24 : decode cX11_takeTables 24 = .ok (.iload_n 2, 1) := by decide +kernel
theorem dX11_takeTables_25 : decode cX11_takeTables 25 = .ok (.iconst 0, 1) := by decide +kernel
theorem dX11_takeTables_26 : decode cX11_takeTables 26 = .ok (.iastore, 1) := by decide +kernel
theorem dX11_takeTables_27 : decode cX11_takeTables 27 = .ok (.aload_n 0, 1) := by decide +kernel
theorem dX11_takeTables_28 : decode cX11_takeTables 28 = .ok (.getfield 77, 3) := by decide +kernel
theorem dX11_takeTables_31 : decode cX11_takeTables 31 = .ok (.iload_n 2, 1) := by decide +kernel
theorem dX11_takeTables_32 : decode cX11_takeTables 32 = .ok (.iaload, 1) := by decide +kernel
theorem dX11_takeTables_33 : decode cX11_takeTables 33 = .ok (.ifCond .lt 60, 3) := by decide +kernel
theorem dX11_takeTables_36 : decode cX11_takeTables 36 = .ok (.aload_n 0, 1) := by decide +kernel
theorem dX11_takeTables_37 : decode cX11_takeTables 37 = .ok (.getfield 209, 3) := by decide +kernel
theorem dX11_takeTables_40 : decode cX11_takeTables 40 = .ok (.ifCond .ne 53, 3) := by decide +kernel
theorem dX11_takeTables_43 : decode cX11_takeTables 43 = .ok (.aload_n 0, 1) := by decide +kernel
theorem dX11_takeTables_44 : decode cX11_takeTables 44 = .ok (.iload_n 1, 1) := by decide +kernel
theorem dX11_takeTables_45 : decode cX11_takeTables 45 = .ok (.putfield 203, 3) := by decide +kernel
theorem dX11_takeTables_48 : decode cX11_takeTables 48 = .ok (.aload_n 0, 1) := by decide +kernel
theorem dX11_takeTables_49 : decode cX11_takeTables 49 = .ok (.iload_n 1, 1) := by decide +kernel
theorem dX11_takeTables_50 : decode cX11_takeTables 50 = .ok (.aload_n 0, 1) := by decide +kernel
theorem dX11_takeTables_51 : decode cX11_takeTables 51 = .ok (.getfield 80, 3) := by decide +kernel
theorem dX11_takeTables_54 : decode cX11_takeTables 54 = .ok (.iload_n 2, 1) := by decide +kernel
theorem dX11_takeTables_55 : decode cX11_takeTables 55 = .ok (.iaload, 1) := by decide +kernel
theorem dX11_takeTables_56 : decode cX11_takeTables 56 = .ok (.iadd, 1) := by decide +kernel
theorem dX11_takeTables_57 : decode cX11_takeTables 57 = .ok (.putfield 206, 3) := by decide +kernel
theorem dX11_takeTables_60 : decode cX11_takeTables 60 = .ok (.aload_n 0, 1) := by decide +kernel
theorem dX11_takeTables_61 : decode cX11_takeTables 61 = .ok (.getfield 206, 3) := by decide +kernel
theorem dX11_takeTables_64 : decode cX11_takeTables 64 = .ok (.istore_n 1, 1) := by decide +kernel
theorem dX11_takeTables_65 : decode cX11_takeTables 65 = .ok (.iload_n 2, 1) := by decide +kernel
theorem dX11_takeTables_66 : decode cX11_takeTables 66 = .ok (.ifCond .ne 10, 3) := by decide +kernel
theorem dX11_takeTables_69 : decode cX11_takeTables 69 = .ok (.aload_n 0, 1) := by decide +kernel
theorem dX11_takeTables_70 : decode cX11_takeTables 70 = .ok (.invokevirtual 253, 3) := by decide +kernel
theorem dX11_takeTables_73 : decode cX11_takeTables 73 = .ok (.goto 20, 3) := by decide +kernel
theorem dX11_takeTables_76 : decode cX11_takeTables 76 = .ok (.iload_n 2, 1) := by decide +kernel
theorem dX11_takeTables_77 : decode cX11_takeTables 77 = .ok (.iconst 1, 1) := by decide +kernel
theorem dX11_takeTables_78 : decode cX11_takeTables 78 = .ok (.if_icmp .ne 10, 3) := by decide +kernel
theorem dX11_takeTables_81 : decode cX11_takeTables 81 = .ok (.aload_n 0, 1) := by decide +kernel
theorem dX11_takeTables_82 : decode cX11_takeTables 82 = .ok (.invokevirtual 256, 3) := by decide +kernel
theorem dX11_takeTables_85 : decode cX11_takeTables 85 = .ok (.goto 8, 3) := by decide +kernel
theorem dX11_takeTables_88 : decode cX11_takeTables 88 = .ok (.aload_n 0, 1) := by decide +kernel
theorem dX11_takeTables_89 : decode cX11_takeTables 89 = .ok (.iload_n 2, 1) := by decide +kernel
theorem dX11_takeTables_90 : decode cX11_takeTables 90 = .ok (.invokevirtual 259, 3) := by decide +kernel
theorem dX11_takeTables_93 : decode cX11_takeTables 93 = .ok (.iinc 2 1, 3) := by decide +kernel
theorem dX11_takeTables_96 : decode cX11_takeTables 96 = .ok (.goto (-82), 3) := by decide +kernel
theorem dX11_takeTables_99 : decode cX11_takeTables 99 = .ok (.return_, 1) := by decide +kernel
theorem dX11_takeAdvances_0 : decode cX11_takeAdvances 0 = .ok (.iconst 0, 1) := by decide +kernel
theorem dX11_takeAdvances_1 : decode cX11_takeAdvances 1 = .ok (.istore_n 1, 1) := by decide +kernel
theorem dX11_takeAdvances_2 : decode cX11_takeAdvances 2 = .ok (.iload_n 1, 1) := by decide +kernel
theorem dX11_takeAdvances_3 : decode cX11_takeAdvances 3 = .ok (.aload_n 0, 1) := by decide +kernel
theorem dX11_takeAdvances_4 : decode cX11_takeAdvances 4 = .ok (.getfield 241, 3) := by decide +kernel
theorem dX11_takeAdvances_7 : decode cX11_takeAdvances 7 = .ok (.if_icmp .ge 47, 3) := by decide +kernel
theorem dX11_takeAdvances_10 : decode cX11_takeAdvances 10 = .ok (.aload_n 0, 1) := by decide +kernel
theorem dX11_takeAdvances_11 : decode cX11_takeAdvances 11 = .ok (.getfield 209, 3) := by decide +kernel
theorem dX11_takeAdvances_14 : decode cX11_takeAdvances 14 = .ok (.ifCond .ne 40, 3) := by decide +kernel
theorem dX11_takeAdvances_17 : decode cX11_takeAdvances 17 = .ok (.aload_n 0, 1) := by decide +kernel
theorem dX11_takeAdvances_18 : decode cX11_takeAdvances 18 = .ok (.getfield 38, 3) := by decide +kernel
theorem dX11_takeAdvances_21 : decode cX11_takeAdvances 21 = .ok (.iload_n 1, 1) := by decide +kernel
theorem dX11_takeAdvances_22 : decode cX11_takeAdvances 22 = .ok (.aload_n 0, 1) := by decide +kernel
theorem dX11_takeAdvances_23 : decode cX11_takeAdvances 23 = .ok (.invokevirtual 250, 3) := by decide +kernel
theorem dX11_takeAdvances_26 : decode cX11_takeAdvances 26 = .ok (.iastore, 1) := by decide +kernel
theorem dX11_takeAdvances_27 : decode cX11_takeAdvances 27 = .ok (.aload_n 0, 1) := by decide +kernel
theorem dX11_takeAdvances_28 : decode cX11_takeAdvances 28 = .ok (.aload_n 0, 1) := by decide +kernel
theorem dX11_takeAdvances_29 : decode cX11_takeAdvances 29 = .ok (.getfield 38, 3) := by decide +kernel
theorem dX11_takeAdvances_32 : decode cX11_takeAdvances 32 = .ok (.iload_n 1, 1) := by decide +kernel
theorem dX11_takeAdvances_33 : decode cX11_takeAdvances 33 = .ok (.iaload, 1) := by decide +kernel
theorem dX11_takeAdvances_34 : decode cX11_takeAdvances 34 = .ok (.sipush 2000, 3) := by decide +kernel
theorem dX11_takeAdvances_37 : decode cX11_takeAdvances 37 = .ok (.if_icmp .gt 7, 3) := by decide +kernel
theorem dX11_takeAdvances_40 : decode cX11_takeAdvances 40 = .ok (.iconst 1, 1) := by decide +kernel
theorem dX11_takeAdvances_41 : decode cX11_takeAdvances 41 = .ok (.goto 4, 3) := by decide +kernel
theorem dX11_takeAdvances_44 : decode cX11_takeAdvances 44 = .ok (.iconst 0, 1) := by decide +kernel
theorem dX11_takeAdvances_45 : decode cX11_takeAdvances 45 = .ok (.invokevirtual 219, 3) := by decide +kernel
theorem dX11_takeAdvances_48 : decode cX11_takeAdvances 48 = .ok (.iinc 1 1, 3) := by decide +kernel
theorem dX11_takeAdvances_51 : decode cX11_takeAdvances 51 = .ok (.goto (-49), 3) := by decide +kernel
theorem dX11_takeAdvances_54 : decode cX11_takeAdvances 54 = .ok (.aload_n 0, 1) := by decide +kernel
theorem dX11_takeAdvances_55 : decode cX11_takeAdvances 55 = .ok (.aload_n 0, 1) := by decide +kernel
theorem dX11_takeAdvances_56 : decode cX11_takeAdvances 56 = .ok (.getfield 203, 3) := by decide +kernel
theorem dX11_takeAdvances_59 : decode cX11_takeAdvances 59 = .ok (.aload_n 0, 1) := by decide +kernel
theorem dX11_takeAdvances_60 : decode cX11_takeAdvances 60 = .ok (.getfield 206, 3) := by decide +kernel
theorem dX11_takeAdvances_63 : decode cX11_takeAdvances 63 = .ok (.if_icmp .ne 7, 3) := by decide +kernel
theorem dX11_takeAdvances_66 : decode cX11_takeAdvances 66 = .ok (.iconst 1, 1) := by decide +kernel
theorem dX11_takeAdvances_67 : decode cX11_takeAdvances 67 = .ok (.goto 4, 3) := by decide +kernel
theorem dX11_takeAdvances_70 : decode cX11_takeAdvances 70 = .ok (.iconst 0, 1) := by decide +kernel
theorem dX11_takeAdvances_71 : decode cX11_takeAdvances 71 = .ok (.invokevirtual 219, 3) := by decide +kernel
theorem dX11_takeAdvances_74 : decode cX11_takeAdvances 74 = .ok (.return_, 1) := by decide +kernel
theorem dX11_takeRow_0 : decode cX11_takeRow 0 = .ok (.aload_n 0, 1) := by decide +kernel
theorem dX11_takeRow_1 : decode cX11_takeRow 1 = .ok (.getfield 203, 3) := by decide +kernel
theorem dX11_takeRow_4 : decode cX11_takeRow 4 = .ok (.aload_n 0, 1) := by decide +kernel
theorem dX11_takeRow_5 : decode cX11_takeRow 5 = .ok (.getfield 206, 3) := by decide +kernel
theorem dX11_takeRow_8 : decode cX11_takeRow 8 = .ok (.if_icmp .ge 36, 3) := by decide +kernel
theorem dX11_takeRow_11 : decode cX11_takeRow 11 = .ok (.aload_n 0, 1) := by decide +kernel
theorem dX11_takeRow_12 : decode cX11_takeRow 12 = .ok (.getfield 65, 3) := by decide +kernel
theorem dX11_takeRow_15 : decode cX11_takeRow 15 = .ok (.bipush 20, 2) := by decide +kernel
theorem dX11_takeRow_17 : decode cX11_takeRow 17 = .ok (.iload_n 1, 1) := by decide +kernel
theorem dX11_takeRow_18 : decode cX11_takeRow 18 = .ok (.imul, 1) := by decide +kernel
theorem dX11_takeRow_19 : decode cX11_takeRow 19 = .ok (.aload_n 0, 1) := by decide +kernel
theorem dX11_takeRow_20 : decode cX11_takeRow 20 = .ok (.getfield 62, 3) := by decide +kernel
theorem dX11_takeRow_23 : decode cX11_takeRow 23 = .ok (.iload_n 1, 1) := by decide +kernel
theorem dX11_takeRow_24 : decode cX11_takeRow 24 = .ok (.iaload, 1) := by decide +kernel
theorem dX11_takeRow_25 : decode cX11_takeRow 25 = .ok (.iadd, 1) := by decide +kernel
theorem dX11_takeRow_26 : decode cX11_takeRow 26 = .ok (.aload_n 0, 1) := by decide +kernel
theorem dX11_takeRow_27 : decode cX11_takeRow 27 = .ok (.invokevirtual 216, 3) := by decide +kernel
theorem dX11_takeRow_30 : decode cX11_takeRow 30 = .ok (.iastore, 1) := by decide +kernel
theorem dX11_takeRow_31 : decode cX11_takeRow 31 = .ok (.aload_n 0, 1) := by decide +kernel
theorem dX11_takeRow_32 : decode cX11_takeRow 32 = .ok (.getfield 62, 3) := by decide +kernel
theorem dX11_takeRow_35 : decode cX11_takeRow 35 = .ok (.iload_n 1, 1) := by decide +kernel
theorem dX11_takeRow_36 : decode cX11_takeRow 36 = .ok (.dup2, 1) := by decide +kernel
theorem dX11_takeRow_37 : decode cX11_takeRow 37 = .ok (.iaload, 1) := by decide +kernel
theorem dX11_takeRow_38 : decode cX11_takeRow 38 = .ok (.iconst 1, 1) := by decide +kernel
theorem dX11_takeRow_39 : decode cX11_takeRow 39 = .ok (.iadd, 1) := by decide +kernel
theorem dX11_takeRow_40 : decode cX11_takeRow 40 = .ok (.iastore, 1) := by decide +kernel
theorem dX11_takeRow_41 : decode cX11_takeRow 41 = .ok (.goto (-41), 3) := by decide +kernel
theorem dX11_takeRow_44 : decode cX11_takeRow 44 = .ok (.return_, 1) := by decide +kernel
theorem dX11_exchange_0 : decode cX11_exchange 0 = .ok (.aload_n 0, 1) := by decide +kernel
theorem dX11_exchange_1 : decode cX11_exchange 1 = .ok (.getfield 87, 3) := by decide +kernel
theorem dX11_exchange_4 : decode cX11_exchange 4 = .ok (.istore_n 1, 1) := by decide +kernel
theorem dX11_exchange_5 : decode cX11_exchange 5 = .ok (.aload_n 0, 1) := by decide +kernel
theorem dX11_exchange_6 : decode cX11_exchange 6 = .ok (.aload_n 0, 1) := by decide +kernel
theorem dX11_exchange_7 : decode cX11_exchange 7 = .ok (.getfield 241, 3) := by decide +kernel
theorem dX11_exchange_10 : decode cX11_exchange 10 = .ok (.putfield 87, 3) := by decide +kernel
theorem dX11_exchange_13 : decode cX11_exchange 13 = .ok (.aload_n 0, 1) := by decide +kernel
theorem dX11_exchange_14 : decode cX11_exchange 14 = .ok (.iload_n 1, 1) := by decide +kernel
theorem dX11_exchange_15 : decode cX11_exchange 15 = .ok (.putfield 241, 3) := by decide +kernel
theorem dX11_exchange_18 : decode cX11_exchange 18 = .ok (.iconst 0, 1) := by decide +kernel
theorem dX11_exchange_19 : decode cX11_exchange 19 = .ok (.istore_n 2, 1) := by decide +kernel
theorem dX11_exchange_20 : decode cX11_exchange 20 = .ok (.iload_n 2, 1) := by decide +kernel
theorem dX11_exchange_21 : decode cX11_exchange 21 = .ok (.bipush 6, 2) := by decide +kernel
theorem dX11_exchange_23 : decode cX11_exchange 23 = .ok (.if_icmp .ge 45, 3) := by decide +kernel
theorem dX11_exchange_26 : decode cX11_exchange 26 = .ok (.aload_n 0, 1) := by decide +kernel
theorem dX11_exchange_27 : decode cX11_exchange 27 = .ok (.getfield 7, 3) := by decide +kernel
theorem dX11_exchange_30 : decode cX11_exchange 30 = .ok (.aload_n 0, 1) := by decide +kernel
theorem dX11_exchange_31 : decode cX11_exchange 31 = .ok (.getfield 38, 3) := by decide +kernel
theorem dX11_exchange_34 : decode cX11_exchange 34 = .ok (.iload_n 2, 1) := by decide +kernel
theorem dX11_exchange_35 : decode cX11_exchange 35 = .ok (.invokestatic 262, 3) := by decide +kernel
theorem dX11_exchange_38 : decode cX11_exchange 38 = .ok (.aload_n 0, 1) := by decide +kernel
theorem dX11_exchange_39 : decode cX11_exchange 39 = .ok (.getfield 13, 3) := by decide +kernel
theorem dX11_exchange_42 : decode cX11_exchange 42 = .ok (.aload_n 0, 1) := by decide +kernel
theorem dX11_exchange_43 : decode cX11_exchange 43 = .ok (.getfield 41, 3) := by decide +kernel
theorem dX11_exchange_46 : decode cX11_exchange 46 = .ok (.iload_n 2, 1) := by decide +kernel
theorem dX11_exchange_47 : decode cX11_exchange 47 = .ok (.invokestatic 262, 3) := by decide +kernel
theorem dX11_exchange_50 : decode cX11_exchange 50 = .ok (.aload_n 0, 1) := by decide +kernel
theorem dX11_exchange_51 : decode cX11_exchange 51 = .ok (.getfield 16, 3) := by decide +kernel
theorem dX11_exchange_54 : decode cX11_exchange 54 = .ok (.aload_n 0, 1) := by decide +kernel
theorem dX11_exchange_55 : decode cX11_exchange 55 = .ok (.getfield 44, 3) := by decide +kernel
theorem dX11_exchange_58 : decode cX11_exchange 58 = .ok (.iload_n 2, 1) := by decide +kernel
theorem dX11_exchange_59 : decode cX11_exchange 59 = .ok (.invokestatic 262, 3) := by decide +kernel
theorem dX11_exchange_62 : decode cX11_exchange 62 = .ok (.iinc 2 1, 3) := by decide +kernel
theorem dX11_exchange_65 : decode cX11_exchange 65 = .ok (.goto (-45), 3) := by decide +kernel
theorem dX11_exchange_68 : decode cX11_exchange 68 = .ok (.iconst 0, 1) := by decide +kernel
theorem dX11_exchange_69 : decode cX11_exchange 69 = .ok (.istore_n 2, 1) := by decide +kernel
theorem dX11_exchange_70 : decode cX11_exchange 70 = .ok (.iload_n 2, 1) := by decide +kernel
theorem dX11_exchange_71 : decode cX11_exchange 71 = .ok (.bipush 96, 2) := by decide +kernel
theorem dX11_exchange_73 : decode cX11_exchange 73 = .ok (.if_icmp .ge 92, 3) := by decide +kernel
theorem dX11_exchange_76 : decode cX11_exchange 76 = .ok (.aload_n 0, 1) := by decide +kernel
theorem dX11_exchange_77 : decode cX11_exchange 77 = .ok (.getfield 19, 3) := by decide +kernel
theorem dX11_exchange_80 : decode cX11_exchange 80 = .ok (.aload_n 0, 1) := by decide +kernel
theorem dX11_exchange_81 : decode cX11_exchange 81 = .ok (.getfield 47, 3) := by decide +kernel
theorem dX11_exchange_84 : decode cX11_exchange 84 = .ok (.iload_n 2, 1) := by decide +kernel
theorem dX11_exchange_85 : decode cX11_exchange 85 = .ok (.invokestatic 262, 3) := by decide +kernel
theorem dX11_exchange_88 : decode cX11_exchange 88 = .ok (.aload_n 0, 1) := by decide +kernel
theorem dX11_exchange_89 : decode cX11_exchange 89 = .ok (.getfield 22, 3) := by decide +kernel
theorem dX11_exchange_92 : decode cX11_exchange 92 = .ok (.aload_n 0, 1) := by decide +kernel
theorem dX11_exchange_93 : decode cX11_exchange 93 = .ok (.getfield 50, 3) := by decide +kernel
theorem dX11_exchange_96 : decode cX11_exchange 96 = .ok (.iload_n 2, 1) := by decide +kernel
theorem dX11_exchange_97 : decode cX11_exchange 97 = .ok (.invokestatic 262, 3) := by decide +kernel
theorem dX11_exchange_100 : decode cX11_exchange 100 = .ok (.aload_n 0, 1) := by decide +kernel
theorem dX11_exchange_101 : decode cX11_exchange 101 = .ok (.getfield 29, 3) := by decide +kernel
theorem dX11_exchange_104 : decode cX11_exchange 104 = .ok (.aload_n 0, 1) := by decide +kernel
theorem dX11_exchange_105 : decode cX11_exchange 105 = .ok (.getfield 56, 3) := by decide +kernel
theorem dX11_exchange_108 : decode cX11_exchange 108 = .ok (.iload_n 2, 1) := by decide +kernel
theorem dX11_exchange_109 : decode cX11_exchange 109 = .ok (.invokestatic 262, 3) := by decide +kernel
theorem dX11_exchange_112 : decode cX11_exchange 112 = .ok (.aload_n 0, 1) := by decide +kernel
theorem dX11_exchange_113 : decode cX11_exchange 113 = .ok (.getfield 25, 3) := by decide +kernel
theorem dX11_exchange_116 : decode cX11_exchange 116 = .ok (.iload_n 2, 1) := by decide +kernel
theorem dX11_exchange_117 : decode cX11_exchange 117 = .ok (.baload, 1) := by decide +kernel
theorem dX11_exchange_118 : decode cX11_exchange 118 = .ok (.istore_n 3, 1) := by decide +kernel
theorem dX11_exchange_119 : decode cX11_exchange 119 = .ok (.aload_n 0, 1) := by decide +kernel
theorem dX11_exchange_120 : decode cX11_exchange 120 = .ok (.getfield 25, 3) := by decide +kernel
theorem dX11_exchange_123 : decode cX11_exchange 123 = .ok (.iload_n 2, 1) := by decide +kernel
theorem dX11_exchange_124 : decode cX11_exchange 124 = .ok (.aload_n 0, 1) := by decide +kernel
theorem dX11_exchange_125 : decode cX11_exchange 125 = .ok (.getfield 53, 3) := by decide +kernel
theorem dX11_exchange_128 : decode cX11_exchange 128 = .ok (.iload_n 2, 1) := by decide +kernel
theorem dX11_exchange_129 : decode cX11_exchange 129 = .ok (.iaload, 1) := by decide +kernel
theorem dX11_exchange_130 : decode cX11_exchange 130 = .ok (.sipush 128, 3) := by decide +kernel
theorem dX11_exchange_133 : decode cX11_exchange 133 = .ok (.if_icmp .ge 7, 3) := by decide +kernel
theorem dX11_exchange_136 : decode cX11_exchange 136 = .ok (.iconst 1, 1) := by decide +kernel
theorem dX11_exchange_137 : decode cX11_exchange 137 = .ok (.goto 4, 3) := by decide +kernel
theorem dX11_exchange_140 : decode cX11_exchange 140 = .ok (.iconst 0, 1) := by decide +kernel
theorem dX11_exchange_141 : decode cX11_exchange 141 = .ok (.bastore, 1) := by decide +kernel
theorem dX11_exchange_142 : decode cX11_exchange 142 = .ok (.aload_n 0, 1) := by decide +kernel
theorem dX11_exchange_143 : decode cX11_exchange 143 = .ok (.getfield 53, 3) := by decide +kernel
theorem dX11_exchange_146 : decode cX11_exchange 146 = .ok (.iload_n 2, 1) := by decide +kernel
theorem dX11_exchange_147 : decode cX11_exchange 147 = .ok (.iload_n 3, 1) := by decide +kernel
theorem dX11_exchange_148 : decode cX11_exchange 148 = .ok (.ifCond .eq 7, 3) := by decide +kernel
theorem dX11_exchange_151 : decode cX11_exchange 151 = .ok (.iconst 0, 1) := by decide +kernel
theorem dX11_exchange_152 : decode cX11_exchange 152 = .ok (.goto 6, 3) := by decide +kernel
theorem dX11_exchange_155 : decode cX11_exchange 155 = .ok (.sipush 128, 3) := by decide +kernel
theorem dX11_exchange_158 : decode cX11_exchange 158 = .ok (.iastore, 1) := by decide +kernel
theorem dX11_exchange_159 : decode cX11_exchange 159 = .ok (.iinc 2 1, 3) := by decide +kernel
theorem dX11_exchange_162 : decode cX11_exchange 162 = .ok (.goto (-92), 3) := by decide +kernel
theorem dX11_exchange_165 : decode cX11_exchange 165 = .ok (.iconst 0, 1) := by decide +kernel
theorem dX11_exchange_166 : decode cX11_exchange 166 = .ok (.istore_n 2, 1) := by decide +kernel
theorem dX11_exchange_167 : decode cX11_exchange 167 = .ok (.iload_n 2, 1) := by decide +kernel
theorem dX11_exchange_168 : decode cX11_exchange 168 = .ok (.bipush 7, 2) := by decide +kernel
theorem dX11_exchange_170 : decode cX11_exchange 170 = .ok (.if_icmp .ge 21, 3) := by decide +kernel
theorem dX11_exchange_173 : decode cX11_exchange 173 = .ok (.aload_n 0, 1) := by decide +kernel
theorem dX11_exchange_174 : decode cX11_exchange 174 = .ok (.getfield 32, 3) := by decide +kernel
theorem dX11_exchange_177 : decode cX11_exchange 177 = .ok (.aload_n 0, 1) := by decide +kernel
theorem dX11_exchange_178 : decode cX11_exchange 178 = .ok (.getfield 62, 3) := by decide +kernel
theorem dX11_exchange_181 : decode cX11_exchange 181 = .ok (.iload_n 2, 1) := by decide +kernel
theorem dX11_exchange_182 : decode cX11_exchange 182 = .ok (.invokestatic 262, 3) := by decide +kernel
theorem dX11_exchange_185 : decode cX11_exchange 185 = .ok (.iinc 2 1, 3) := by decide +kernel
theorem dX11_exchange_188 : decode cX11_exchange 188 = .ok (.goto (-21), 3) := by decide +kernel
theorem dX11_exchange_191 : decode cX11_exchange 191 = .ok (.iconst 0, 1) := by decide +kernel
theorem dX11_exchange_192 : decode cX11_exchange 192 = .ok (.istore_n 2, 1) := by decide +kernel
theorem dX11_exchange_193 : decode cX11_exchange 193 = .ok (.iload_n 2, 1) := by decide +kernel
theorem dX11_exchange_194 : decode cX11_exchange 194 = .ok (.sipush 140, 3) := by decide +kernel
theorem dX11_exchange_197 : decode cX11_exchange 197 = .ok (.if_icmp .ge 21, 3) := by decide +kernel
theorem dX11_exchange_200 : decode cX11_exchange 200 = .ok (.aload_n 0, 1) := by decide +kernel
theorem dX11_exchange_201 : decode cX11_exchange 201 = .ok (.getfield 35, 3) := by decide +kernel
theorem dX11_exchange_204 : decode cX11_exchange 204 = .ok (.aload_n 0, 1) := by decide +kernel
theorem dX11_exchange_205 : decode cX11_exchange 205 = .ok (.getfield 65, 3) := by decide +kernel
theorem dX11_exchange_208 : decode cX11_exchange 208 = .ok (.iload_n 2, 1) := by decide +kernel
theorem dX11_exchange_209 : decode cX11_exchange 209 = .ok (.invokestatic 262, 3) := by decide +kernel
theorem dX11_exchange_212 : decode cX11_exchange 212 = .ok (.iinc 2 1, 3) := by decide +kernel
theorem dX11_exchange_215 : decode cX11_exchange 215 = .ok (.goto (-22), 3) := by decide +kernel
theorem dX11_exchange_218 : decode cX11_exchange 218 = .ok (.return_, 1) := by decide +kernel
theorem dX11_swap_0 : decode cX11_swap 0 = .ok (.aload_n 0, 1) := by decide +kernel
theorem dX11_swap_1 : decode cX11_swap 1 = .ok (.iload_n 2, 1) := by decide +kernel
theorem dX11_swap_2 : decode cX11_swap 2 = .ok (.iaload, 1) := by decide +kernel
theorem dX11_swap_3 : decode cX11_swap 3 = .ok (.istore_n 3, 1) := by decide +kernel
theorem dX11_swap_4 : decode cX11_swap 4 = .ok (.aload_n 0, 1) := by decide +kernel
theorem dX11_swap_5 : decode cX11_swap 5 = .ok (.iload_n 2, 1) := by decide +kernel
theorem dX11_swap_6 : decode cX11_swap 6 = .ok (.aload_n 1, 1) := by decide +kernel
theorem dX11_swap_7 : decode cX11_swap 7 = .ok (.iload_n 2, 1) := by decide +kernel
theorem dX11_swap_8 : decode cX11_swap 8 = .ok (.iaload, 1) := by decide +kernel
theorem dX11_swap_9 : decode cX11_swap 9 = .ok (.iastore, 1) := by decide +kernel
theorem dX11_swap_10 : decode cX11_swap 10 = .ok (.aload_n 1, 1) := by decide +kernel
theorem dX11_swap_11 : decode cX11_swap 11 = .ok (.iload_n 2, 1) := by decide +kernel
theorem dX11_swap_12 : decode cX11_swap 12 = .ok (.iload_n 3, 1) := by decide +kernel
theorem dX11_swap_13 : decode cX11_swap 13 = .ok (.iastore, 1) := by decide +kernel
theorem dX11_swap_14 : decode cX11_swap 14 = .ok (.return_, 1) := by decide +kernel
theorem dX11_asLong_0 : decode cX11_asLong 0 = .ok (.iconst 1, 1) := by decide +kernel
theorem dX11_asLong_1 : decode cX11_asLong 1 = .ok (.istore_n 1, 1) := by decide +kernel
theorem dX11_asLong_2 : decode cX11_asLong 2 = .ok (.iconst 0, 1) := by decide +kernel
theorem dX11_asLong_3 : decode cX11_asLong 3 = .ok (.istore_n 2, 1) := by decide +kernel
theorem dX11_asLong_4 : decode cX11_asLong 4 = .ok (.iload_n 2, 1) := by decide +kernel
theorem dX11_asLong_5 : decode cX11_asLong 5 = .ok (.iconst 2, 1) := by decide +kernel
theorem dX11_asLong_6 : decode cX11_asLong 6 = .ok (.if_icmp .ge 46, 3) := by decide +kernel
theorem dX11_asLong_9 : decode cX11_asLong 9 = .ok (.aload_n 0, 1) := by decide +kernel
theorem dX11_asLong_10 : decode cX11_asLong 10 = .ok (.getfield 77, 3) := by decide +kernel
theorem dX11_asLong_13 : decode cX11_asLong 13 = .ok (.iload_n 2, 1) := by decide +kernel
theorem dX11_asLong_14 : decode cX11_asLong 14 = .ok (.iaload, 1) := by decide +kernel
theorem dX11_asLong_15 : decode cX11_asLong 15 = .ok (.ifCond .lt 31, 3) := by decide +kernel
theorem dX11_asLong_18 : decode cX11_asLong 18 = .ok (.aload_n 0, 1) := by decide +kernel
theorem dX11_asLong_19 : decode cX11_asLong 19 = .ok (.iload_n 2, 1) := by decide +kernel
theorem dX11_asLong_20 : decode cX11_asLong 20 = .ok (.invokevirtual 184, 3) := by decide +kernel
theorem dX11_asLong_23 : decode cX11_asLong 23 = .ok (.iload_n 1, 1) := by decide +kernel
theorem dX11_asLong_24 : decode cX11_asLong 24 = .ok (.ifCond .eq 20, 3) := by decide +kernel
theorem dX11_asLong_27 : decode cX11_asLong 27 = .ok (.aload_n 0, 1) := by decide +kernel
theorem dX11_asLong_28 : decode cX11_asLong 28 = .ok (.getfield 107, 3) := by decide +kernel
theorem dX11_asLong_31 : decode cX11_asLong 31 = .ok (.aload_n 0, 1) := by decide +kernel
theorem dX11_asLong_32 : decode cX11_asLong 32 = .ok (.getfield 77, 3) := by decide +kernel
theorem dX11_asLong_35 : decode cX11_asLong 35 = .ok (.iload_n 2, 1) := by decide +kernel
theorem dX11_asLong_36 : decode cX11_asLong 36 = .ok (.iaload, 1) := by decide +kernel
theorem dX11_asLong_37 : decode cX11_asLong 37 = .ok (.if_icmp .ne 7, 3) := by decide +kernel
theorem dX11_asLong_40 : decode cX11_asLong 40 = .ok (.iconst 1, 1) := by decide +kernel
theorem dX11_asLong_41 : decode cX11_asLong 41 = .ok (.goto 4, 3) := by decide +kernel
theorem dX11_asLong_44 : decode cX11_asLong 44 = .ok (.iconst 0, 1) := by decide +kernel
theorem dX11_asLong_45 : decode cX11_asLong 45 = .ok (.istore_n 1, 1) := by decide +kernel
theorem dX11_asLong_46 : decode cX11_asLong 46 = .ok (.iinc 2 1, 3) := by decide +kernel
theorem dX11_asLong_49 : decode cX11_asLong 49 = .ok (.goto (-45), 3) := by decide +kernel
theorem dX11_asLong_52 : decode cX11_asLong 52 = .ok (.iload_n 1, 1) := by decide +kernel
theorem dX11_asLong_53 : decode cX11_asLong 53 = .ok (.ireturn, 1) := by decide +kernel
theorem dX11_readStages_0 : decode cX11_readStages 0 = .ok (.aload_n 0, 1) := by decide +kernel
theorem dX11_readStages_1 : decode cX11_readStages 1 = .ok (.iconst 0, 1) := by decide +kernel
theorem dX11_readStages_2 : decode cX11_readStages 2 = .ok (.putfield 209, 3) := by decide +kernel
theorem dX11_readStages_5 : decode cX11_readStages 5 = .ok (.aload_n 0, 1) := by decide +kernel
theorem dX11_readStages_6 : decode cX11_readStages 6 = .ok (.invokevirtual 266, 3) := by decide +kernel
theorem dX11_readStages_9 : decode cX11_readStages 9 = .ok (.istore_n 1, 1) := by decide +kernel
theorem dX11_readStages_10 : decode cX11_readStages 10 = .ok (.aload_n 0, 1) := by decide +kernel
theorem dX11_readStages_11 : decode cX11_readStages 11 = .ok (.getfield 209, 3) := by decide +kernel
theorem dX11_readStages_14 : decode cX11_readStages 14 = .ok (.ifCond .eq 5, 3) := by decide +kernel
theorem dX11_readStages_17 : decode cX11_readStages 17 = .ok (.iconst 1, 1) := by decide +kernel
theorem dX11_readStages_18 : decode cX11_readStages 18 = .ok (.ireturn, 1) := by decide +kernel
theorem dX11_readStages_19 : decode cX11_readStages 19 = .ok (.aload_n 0, 1) := by decide +kernel
theorem dX11_readStages_20 : decode cX11_readStages 20 = .ok (.iload_n 1, 1) := by decide +kernel
theorem dX11_readStages_21 : decode cX11_readStages 21 = .ok (.invokevirtual 269, 3) := by decide +kernel
theorem dX11_readStages_24 : decode cX11_readStages 24 = .ok (.aload_n 0, 1) := by decide +kernel
theorem dX11_readStages_25 : decode cX11_readStages 25 = .ok (.getfield 209, 3) := by decide +kernel
theorem dX11_readStages_28 : decode cX11_readStages 28 = .ok (.ifCond .eq 5, 3) := by decide +kernel
theorem dX11_readStages_31 : decode cX11_readStages 31 = .ok (.iconst 2, 1) := by decide +kernel
theorem dX11_readStages_32 : decode cX11_readStages 32 = .ok (.ireturn, 1) := by decide +kernel
theorem dX11_readStages_33 : decode cX11_readStages 33 = .ok (.aload_n 0, 1) := by decide +kernel
theorem dX11_readStages_34 : decode cX11_readStages 34 = .ok (.invokevirtual 272, 3) := by decide +kernel
