theorem dX0_ofDouble_0 : decode cX0_ofDouble 0 = .ok (.dload_n 0, 1) := by decide +kernel
theorem dX0_ofDouble_1 : decode cX0_ofDouble 1 = .ok (.dconst 0, 1) := by decide +kernel
theorem dX0_ofDouble_2 : decode cX0_ofDouble 2 = .ok (.dcmp .l, 1) := by decide +kernel
theorem dX0_ofDouble_3 : decode cX0_ofDouble 3 = .ok (.ifCond .ne 5, 3) := by decide +kernel
theorem dX0_ofDouble_6 : decode cX0_ofDouble 6 = .ok (.lconst 0, 1) := by decide +kernel
theorem dX0_ofDouble_7 : decode cX0_ofDouble 7 = .ok (.lreturn, 1) := by decide +kernel
theorem dX0_ofDouble_8 : decode cX0_ofDouble 8 = .ok (.sipush 1023, 3) := by decide +kernel
theorem dX0_ofDouble_11 : decode cX0_ofDouble 11 = .ok (.istore_n 2, 1) := by decide +kernel
theorem dX0_ofDouble_12 : decode cX0_ofDouble 12 = .ok (.dload_n 0, 1) := by decide +kernel
theorem dX0_ofDouble_13 : decode cX0_ofDouble 13 = .ok (.dstore_n 3, 1) := by decide +kernel
theorem dX0_ofDouble_14 : decode cX0_ofDouble 14 = .ok (.dload_n 3, 1) := by decide +kernel
theorem dX0_ofDouble_15 : decode cX0_ofDouble 15 = .ok (.dconst 1, 1) := by decide +kernel
theorem dX0_ofDouble_16 : decode cX0_ofDouble 16 = .ok (.dcmp .g, 1) := by decide +kernel
theorem dX0_ofDouble_17 : decode cX0_ofDouble 17 = .ok (.ifCond .ge 20, 3) := by decide +kernel
theorem dX0_ofDouble_20 : decode cX0_ofDouble 20 = .ok (.iload_n 2, 1) := by decide +kernel
theorem dX0_ofDouble_21 : decode cX0_ofDouble 21 = .ok (.iconst 1, 1) := by decide +kernel
theorem dX0_ofDouble_22 : decode cX0_ofDouble 22 = .ok (.if_icmp .le 15, 3) := by decide +kernel
theorem dX0_ofDouble_25 : decode cX0_ofDouble 25 = .ok (.dload_n 3, 1) := by decide +kernel
theorem dX0_ofDouble_26 : decode cX0_ofDouble 26 = .ok (.ldc2_w 7, 3) := by decide +kernel
theorem dX0_ofDouble_29 : decode cX0_ofDouble 29 = .ok (.dmul, 1) := by decide +kernel
theorem dX0_ofDouble_30 : decode cX0_ofDouble 30 = .ok (.dstore_n 3, 1) := by decide +kernel
theorem dX0_ofDouble_31 : decode cX0_ofDouble 31 = .ok (.iinc 2 (-1), 3) := by decide +kernel
theorem dX0_ofDouble_34 : decode cX0_ofDouble 34 = .ok (.goto (-20), 3) := by decide +kernel
theorem dX0_ofDouble_37 : decode cX0_ofDouble 37 = .ok (.dload_n 3, 1) := by decide +kernel
theorem dX0_ofDouble_38 : decode cX0_ofDouble 38 = .ok (.ldc2_w 9, 3) := by decide +kernel
theorem dX0_ofDouble_41 : decode cX0_ofDouble 41 = .ok (.dmul, 1) := by decide +kernel
theorem dX0_ofDouble_42 : decode cX0_ofDouble 42 = .ok (.d2l, 1) := by decide +kernel
theorem dX0_ofDouble_43 : decode cX0_ofDouble 43 = .ok (.ldc2_w 11, 3) := by decide +kernel
theorem dX0_ofDouble_46 : decode cX0_ofDouble 46 = .ok (.lsub, 1) := by decide +kernel
theorem dX0_ofDouble_47 : decode cX0_ofDouble 47 = .ok (.lstore 5, 2) := by decide +kernel
theorem dX0_ofDouble_49 : decode cX0_ofDouble 49 = .ok (.iload_n 2, 1) := by decide +kernel
theorem dX0_ofDouble_50 : decode cX0_ofDouble 50 = .ok (.i2l, 1) := by decide +kernel
theorem dX0_ofDouble_51 : decode cX0_ofDouble 51 = .ok (.bipush 52, 2) := by decide +kernel
theorem dX0_ofDouble_53 : decode cX0_ofDouble 53 = .ok (.lshl, 1) := by decide +kernel
theorem dX0_ofDouble_54 : decode cX0_ofDouble 54 = .ok (.lload 5, 2) := by decide +kernel
theorem dX0_ofDouble_56 : decode cX0_ofDouble 56 = .ok (.ladd, 1) := by decide +kernel
theorem dX0_ofDouble_57 : decode cX0_ofDouble 57 = .ok (.lreturn, 1) := by decide +kernel
theorem dX0_ofFloat_0 : decode cX0_ofFloat 0 = .ok (.fload_n 0, 1) := by decide +kernel
theorem dX0_ofFloat_1 : decode cX0_ofFloat 1 = .ok (.fconst 0, 1) := by decide +kernel
theorem dX0_ofFloat_2 : decode cX0_ofFloat 2 = .ok (.fcmp .l, 1) := by decide +kernel
theorem dX0_ofFloat_3 : decode cX0_ofFloat 3 = .ok (.ifCond .ne 5, 3) := by decide +kernel
theorem dX0_ofFloat_6 : decode cX0_ofFloat 6 = .ok (.iconst 0, 1) := by decide +kernel
theorem dX0_ofFloat_7 : decode cX0_ofFloat 7 = .ok (.ireturn, 1) := by decide +kernel
theorem dX0_ofFloat_8 : decode cX0_ofFloat 8 = .ok (.bipush 127, 2) := by decide +kernel
theorem dX0_ofFloat_10 : decode cX0_ofFloat 10 = .ok (.istore_n 1, 1) := by decide +kernel
theorem dX0_ofFloat_11 : decode cX0_ofFloat 11 = .ok (.fload_n 0, 1) := by decide +kernel
theorem dX0_ofFloat_12 : decode cX0_ofFloat 12 = .ok (.fstore_n 2, 1) := by decide +kernel
theorem dX0_ofFloat_13 : decode cX0_ofFloat 13 = .ok (.fload_n 2, 1) := by decide +kernel
theorem dX0_ofFloat_14 : decode cX0_ofFloat 14 = .ok (.fconst 1, 1) := by decide +kernel
theorem dX0_ofFloat_15 : decode cX0_ofFloat 15 = .ok (.fcmp .g, 1) := by decide +kernel
theorem dX0_ofFloat_16 : decode cX0_ofFloat 16 = .ok (.ifCond .ge 18, 3) := by decide +kernel
theorem dX0_ofFloat_19 : decode cX0_ofFloat 19 = .ok (.iload_n 1, 1) := by decide +kernel
theorem dX0_ofFloat_20 : decode cX0_ofFloat 20 = .ok (.iconst 1, 1) := by decide +kernel
theorem dX0_ofFloat_21 : decode cX0_ofFloat 21 = .ok (.if_icmp .le 13, 3) := by decide +kernel
theorem dX0_ofFloat_24 : decode cX0_ofFloat 24 = .ok (.fload_n 2, 1) := by decide +kernel
theorem dX0_ofFloat_25 : decode cX0_ofFloat 25 = .ok (.fconst 2, 1) := by decide +kernel
theorem dX0_ofFloat_26 : decode cX0_ofFloat 26 = .ok (.fmul, 1) := by decide +kernel
theorem dX0_ofFloat_27 : decode cX0_ofFloat 27 = .ok (.fstore_n 2, 1) := by decide +kernel
theorem dX0_ofFloat_28 : decode cX0_ofFloat 28 = .ok (.iinc 1 (-1), 3) := by decide +kernel
theorem dX0_ofFloat_31 : decode cX0_ofFloat 31 = .ok (.goto (-18), 3) := by decide +kernel
theorem dX0_ofFloat_34 : decode cX0_ofFloat 34 = .ok (.fload_n 2, 1) := by decide +kernel
theorem dX0_ofFloat_35 : decode cX0_ofFloat 35 = .ok (.ldc 13, 2) := by decide +kernel
theorem dX0_ofFloat_37 : decode cX0_ofFloat 37 = .ok (.fmul, 1) := by decide +kernel
theorem dX0_ofFloat_38 : decode cX0_ofFloat 38 = .ok (.f2i, 1) := by decide +kernel
theorem dX0_ofFloat_39 : decode cX0_ofFloat 39 = .ok (.ldc 14, 2) := by decide +kernel
theorem dX0_ofFloat_41 : decode cX0_ofFloat 41 = .ok (.isub, 1) := by decide +kernel
theorem dX0_ofFloat_42 : decode cX0_ofFloat 42 = .ok (.istore_n 3, 1) := by decide +kernel
theorem dX0_ofFloat_43 : decode cX0_ofFloat 43 = .ok (.iload_n 1, 1) := by decide +kernel
theorem dX0_ofFloat_44 : decode cX0_ofFloat 44 = .ok (.bipush 23, 2) := by decide +kernel
theorem dX0_ofFloat_46 : decode cX0_ofFloat 46 = .ok (.ishl, 1) := by decide +kernel
theorem dX0_ofFloat_47 : decode cX0_ofFloat 47 = .ok (.iload_n 3, 1) := by decide +kernel
theorem dX0_ofFloat_48 : decode cX0_ofFloat 48 = .ok (.iadd, 1) := by decide +kernel
theorem dX0_ofFloat_49 : decode cX0_ofFloat 49 = .ok (.ireturn, 1) := by decide +kernel
theorem dX1_init_0 : decode cX1_init 0 = .ok (.aload_n 0, 1) := by decide +kernel
theorem dX1_init_1 : decode cX1_init 1 = .ok (.invokespecial 1, 3) := by decide +kernel
theorem dX1_init_4 : decode cX1_init 4 = .ok (.aload_n 0, 1) := by decide +kernel
theorem dX1_init_5 : decode cX1_init 5 = .ok (.aload_n 1, 1) := by decide +kernel
theorem dX1_init_6 : decode cX1_init 6 = .ok (.putfield 7, 3) := by decide +kernel
theorem dX1_init_9 : decode cX1_init 9 = .ok (.aload_n 0, 1) := by decide +kernel
theorem dX1_init_10 : decode cX1_init 10 = .ok (.aload_n 1, 1) := by decide +kernel
theorem dX1_init_11 : decode cX1_init 11 = .ok (.invokevirtual 13, 3) := by decide +kernel
theorem dX1_init_14 : decode cX1_init 14 = .ok (.iconst 1, 1) := by decide +kernel
theorem dX1_init_15 : decode cX1_init 15 = .ok (.iadd, 1) := by decide +kernel
theorem dX1_init_16 : decode cX1_init 16 = .ok (.newarray .int, 2) := by decide +kernel
theorem dX1_init_18 : decode cX1_init 18 = .ok (.putfield 19, 3) := by decide +kernel
theorem dX1_init_21 : decode cX1_init 21 = .ok (.aload_n 0, 1) := by decide +kernel
theorem dX1_init_22 : decode cX1_init 22 = .ok (.aload_n 1, 1) := by decide +kernel
theorem dX1_init_23 : decode cX1_init 23 = .ok (.invokevirtual 13, 3) := by decide +kernel
theorem dX1_init_26 : decode cX1_init 26 = .ok (.iconst 1, 1) := by decide +kernel
theorem dX1_init_27 : decode cX1_init 27 = .ok (.iadd, 1) := by decide +kernel
theorem dX1_init_28 : decode cX1_init 28 = .ok (.newarray .int, 2) := by decide +kernel
theorem dX1_init_30 : decode cX1_init 30 = .ok (.putfield 23, 3) := by decide +kernel
theorem dX1_init_33 : decode cX1_init 33 = .ok (.aload_n 0, 1) := by decide +kernel
theorem dX1_init_34 : decode cX1_init 34 = .ok (.aload_n 1, 1) := by decide +kernel
theorem dX1_init_35 : decode cX1_init 35 = .ok (.invokevirtual 13, 3) := by decide +kernel
theorem dX1_init_38 : decode cX1_init 38 = .ok (.iconst 1, 1) := by decide +kernel
theorem dX1_init_39 : decode cX1_init 39 = .ok (.iadd, 1) := by decide +kernel
theorem dX1_init_40 : decode cX1_init 40 = .ok (.newarray .boolean, 2) := by decide +kernel
theorem dX1_init_42 : decode cX1_init 42 = .ok (.putfield 26, 3) := by decide +kernel
theorem dX1_init_45 : decode cX1_init 45 = .ok (.aload_n 0, 1) := by decide +kernel
theorem dX1_init_46 : decode cX1_init 46 = .ok (.aload_n 1, 1) := by decide +kernel
theorem dX1_init_47 : decode cX1_init 47 = .ok (.invokevirtual 13, 3) := by decide +kernel
theorem dX1_init_50 : decode cX1_init 50 = .ok (.iconst 1, 1) := by decide +kernel
theorem dX1_init_51 : decode cX1_init 51 = .ok (.iadd, 1) := by decide +kernel
theorem dX1_init_52 : decode cX1_init 52 = .ok (.newarray .boolean, 2) := by decide +kernel
theorem dX1_init_54 : decode cX1_init 54 = .ok (.putfield 30, 3) := by decide +kernel
theorem dX1_init_57 : decode cX1_init 57 = .ok (.return_, 1) := by decide +kernel
theorem dX1_isFulfilledBy_0 : decode cX1_isFulfilledBy 0 = .ok (.aload_n 0, 1) := by decide +kernel
theorem dX1_isFulfilledBy_1 : decode cX1_isFulfilledBy 1 = .ok (.iconst 0, 1) := by decide +kernel
theorem dX1_isFulfilledBy_2 : decode cX1_isFulfilledBy 2 = .ok (.putfield 33, 3) := by decide +kernel
theorem dX1_isFulfilledBy_5 : decode cX1_isFulfilledBy 5 = .ok (.aload_n 0, 1) := by decide +kernel
theorem dX1_isFulfilledBy_6 : decode cX1_isFulfilledBy 6 = .ok (.iconst 1, 1) := by decide +kernel
theorem dX1_isFulfilledBy_7 : decode cX1_isFulfilledBy 7 = .ok (.invokevirtual 37, 3) := by decide +kernel
theorem dX1_isFulfilledBy_10 : decode cX1_isFulfilledBy 10 = .ok (.iconst 1, 1) := by decide +kernel
theorem dX1_isFulfilledBy_11 : decode cX1_isFulfilledBy 11 = .ok (.istore_n 2, 1) := by decide +kernel
theorem dX1_isFulfilledBy_12 : decode cX1_isFulfilledBy 12 = .ok (.iconst 0, 1) := by decide +kernel
theorem dX1_isFulfilledBy_13 : decode cX1_isFulfilledBy 13 = .ok (.istore_n 3, 1) := by decide +kernel
theorem dX1_isFulfilledBy_14 : decode cX1_isFulfilledBy 14 = .ok (.iload_n 3, 1) := by decide +kernel
theorem dX1_isFulfilledBy_15 : decode cX1_isFulfilledBy 15 = .ok (.aload_n 0, 1) := by decide +kernel
theorem dX1_isFulfilledBy_16 : decode cX1_isFulfilledBy 16 = .ok (.getfield 7, 3) := by decide +kernel
theorem dX1_isFulfilledBy_19 : decode cX1_isFulfilledBy 19 = .ok (.invokevirtual 13, 3) := by decide +kernel
theorem dX1_isFulfilledBy_22 : decode cX1_isFulfilledBy 22 = .ok (.if_icmp .ge 157, 3) := by decide +kernel
theorem dX1_isFulfilledBy_25 : decode cX1_isFulfilledBy 25 = .ok (.aload_n 0, 1) := by decide +kernel
theorem dX1_isFulfilledBy_26 : decode cX1_isFulfilledBy 26 = .ok (.getfield 7, 3) := by decide +kernel
theorem dX1_isFulfilledBy_29 : decode cX1_isFulfilledBy 29 = .ok (.iload_n 3, 1) := by decide +kernel
theorem dX1_isFulfilledBy_30 : decode cX1_isFulfilledBy 30 = .ok (.invokevirtual 41, 3) := by decide +kernel
theorem dX1_isFulfilledBy_33 : decode cX1_isFulfilledBy 33 = .ok (.istore 4, 2) := by decide +kernel
theorem dX1_isFulfilledBy_35 : decode cX1_isFulfilledBy 35 = .ok (.aload_n 0, 1) := by decide +kernel
theorem dX1_isFulfilledBy_36 : decode cX1_isFulfilledBy 36 = .ok (.getfield 7, 3) := by decide +kernel
theorem dX1_isFulfilledBy_39 : decode cX1_isFulfilledBy 39 = .ok (.iload_n 3, 1) := by decide +kernel
theorem dX1_isFulfilledBy_40 : decode cX1_isFulfilledBy 40 = .ok (.invokestatic 45, 3) := by decide +kernel
theorem dX1_isFulfilledBy_43 : decode cX1_isFulfilledBy 43 = .ok (.ifCond .eq 12, 3) := by decide +kernel
theorem dX1_isFulfilledBy_46 : decode cX1_isFulfilledBy 46 = .ok (.iload 4, 2) := by decide +kernel
theorem dX1_isFulfilledBy_48 : decode cX1_isFulfilledBy 48 = .ok (.bipush 48, 2) := by decide +kernel
theorem dX1_isFulfilledBy_50 : decode cX1_isFulfilledBy 50 = .ok (.isub, 1) := by decide +kernel
theorem dX1_isFulfilledBy_51 : decode cX1_isFulfilledBy 51 = .ok (.istore_n 2, 1) := by decide +kernel
theorem dX1_isFulfilledBy_52 : decode cX1_isFulfilledBy 52 = .ok (.goto 121, 3) := by decide +kernel
theorem dX1_isFulfilledBy_55 : decode cX1_isFulfilledBy 55 = .ok (.aload_n 0, 1) := by decide +kernel
theorem dX1_isFulfilledBy_56 : decode cX1_isFulfilledBy 56 = .ok (.getfield 7, 3) := by decide +kernel
theorem dX1_isFulfilledBy_59 : decode cX1_isFulfilledBy 59 = .ok (.iload_n 3, 1) := by decide +kernel
theorem dX1_isFulfilledBy_60 : decode cX1_isFulfilledBy 60 = .ok (.invokestatic 51, 3) := by decide +kernel
theorem dX1_isFulfilledBy_63 : decode cX1_isFulfilledBy 63 = .ok (.ifCond .eq 19, 3) := by decide +kernel
theorem dX1_isFulfilledBy_66 : decode cX1_isFulfilledBy 66 = .ok (.aload_n 0, 1) := by decide +kernel
theorem dX1_isFulfilledBy_67 : decode cX1_isFulfilledBy 67 = .ok (.iload_n 1, 1) := by decide +kernel
theorem dX1_isFulfilledBy_68 : decode cX1_isFulfilledBy 68 = .ok (.iload 4, 2) := by decide +kernel
theorem dX1_isFulfilledBy_70 : decode cX1_isFulfilledBy 70 = .ok (.bipush 48, 2) := by decide +kernel
theorem dX1_isFulfilledBy_72 : decode cX1_isFulfilledBy 72 = .ok (.isub, 1) := by decide +kernel
theorem dX1_isFulfilledBy_73 : decode cX1_isFulfilledBy 73 = .ok (.invokestatic 54, 3) := by decide +kernel
theorem dX1_isFulfilledBy_76 : decode cX1_isFulfilledBy 76 = .ok (.invokevirtual 60, 3) := by decide +kernel
theorem dX1_isFulfilledBy_79 : decode cX1_isFulfilledBy 79 = .ok (.goto 94, 3) := by decide +kernel
theorem dX1_isFulfilledBy_82 : decode cX1_isFulfilledBy 82 = .ok (.iload 4, 2) := by decide +kernel
theorem dX1_isFulfilledBy_84 : decode cX1_isFulfilledBy 84 = .ok (.bipush 40, 2) := by decide +kernel
theorem dX1_isFulfilledBy_86 : decode cX1_isFulfilledBy 86 = .ok (.if_icmp .ne 23, 3) := by decide +kernel
theorem dX1_isFulfilledBy_89 : decode cX1_isFulfilledBy 89 = .ok (.aload_n 0, 1) := by decide +kernel
theorem dX1_isFulfilledBy_90 : decode cX1_isFulfilledBy 90 = .ok (.dup, 1) := by decide +kernel
theorem dX1_isFulfilledBy_91 : decode cX1_isFulfilledBy 91 = .ok (.getfield 33, 3) := by decide +kernel
theorem dX1_isFulfilledBy_94 : decode cX1_isFulfilledBy 94 = .ok (.iconst 1, 1) := by decide +kernel
theorem dX1_isFulfilledBy_95 : decode cX1_isFulfilledBy 95 = .ok (.iadd, 1) := by decide +kernel
theorem dX1_isFulfilledBy_96 : decode cX1_isFulfilledBy 96 = .ok (.putfield 33, 3) := by decide +kernel
theorem dX1_isFulfilledBy_99 : decode cX1_isFulfilledBy 99 = .ok (.aload_n 0, 1) := by decide +kernel
theorem dX1_isFulfilledBy_100 : decode cX1_isFulfilledBy 100 = .ok (.iload_n 2, 1) := by decide +kernel
theorem dX1_isFulfilledBy_101 : decode cX1_isFulfilledBy 101 = .ok (.invokevirtual 37, 3) := by decide +kernel
theorem dX1_isFulfilledBy_104 : decode cX1_isFulfilledBy 104 = .ok (.iconst 1, 1) := by decide +kernel
theorem dX1_isFulfilledBy_105 : decode cX1_isFulfilledBy 105 = .ok (.istore_n 2, 1) := by decide +kernel
theorem dX1_isFulfilledBy_106 : decode cX1_isFulfilledBy 106 = .ok (.goto 67, 3) := by decide +kernel
theorem dX1_isFulfilledBy_109 : decode cX1_isFulfilledBy 109 = .ok (.iload 4, 2) := by decide +kernel
theorem dX1_isFulfilledBy_111 : decode cX1_isFulfilledBy 111 = .ok (.bipush 124, 2) := by decide +kernel
theorem dX1_isFulfilledBy_113 : decode cX1_isFulfilledBy 113 = .ok (.if_icmp .ne 10, 3) := by decide +kernel
theorem dX1_isFulfilledBy_116 : decode cX1_isFulfilledBy 116 = .ok (.aload_n 0, 1) := by decide +kernel
theorem dX1_isFulfilledBy_117 : decode cX1_isFulfilledBy 117 = .ok (.invokevirtual 64, 3) := by decide +kernel
theorem dX1_isFulfilledBy_120 : decode cX1_isFulfilledBy 120 = .ok (.goto 53, 3) := by decide +kernel
theorem dX1_isFulfilledBy_123 : decode cX1_isFulfilledBy 123 = .ok (.iload 4, 2) := by decide +kernel
theorem dX1_isFulfilledBy_125 : decode cX1_isFulfilledBy 125 = .ok (.bipush 44, 2) := by decide +kernel
theorem dX1_isFulfilledBy_127 : decode cX1_isFulfilledBy 127 = .ok (.if_icmp .ne 10, 3) := by decide +kernel
theorem dX1_isFulfilledBy_130 : decode cX1_isFulfilledBy 130 = .ok (.aload_n 0, 1) := by decide +kernel
theorem dX1_isFulfilledBy_131 : decode cX1_isFulfilledBy 131 = .ok (.invokevirtual 67, 3) := by decide +kernel
theorem dX1_isFulfilledBy_134 : decode cX1_isFulfilledBy 134 = .ok (.goto 39, 3) := by decide +kernel
theorem dX1_isFulfilledBy_137 : decode cX1_isFulfilledBy 137 = .ok (.iload 4, 2) := by decide +kernel
theorem dX1_isFulfilledBy_139 : decode cX1_isFulfilledBy 139 = .ok (.bipush 41, 2) := by decide +kernel
theorem dX1_isFulfilledBy_141 : decode cX1_isFulfilledBy 141 = .ok (.if_icmp .ne 32, 3) := by decide +kernel
theorem dX1_isFulfilledBy_144 : decode cX1_isFulfilledBy 144 = .ok (.aload_n 0, 1) := by decide +kernel
theorem dX1_isFulfilledBy_145 : decode cX1_isFulfilledBy 145 = .ok (.getfield 33, 3) := by decide +kernel
theorem dX1_isFulfilledBy_148 : decode cX1_isFulfilledBy 148 = .ok (.ifCond .le 25, 3) := by decide +kernel
theorem dX1_isFulfilledBy_151 : decode cX1_isFulfilledBy 151 = .ok (.aload_n 0, 1) := by decide +kernel
theorem dX1_isFulfilledBy_152 : decode cX1_isFulfilledBy 152 = .ok (.invokevirtual 70, 3) := by decide +kernel
theorem dX1_isFulfilledBy_155 : decode cX1_isFulfilledBy 155 = .ok (.istore 5, 2) := by decide +kernel
theorem dX1_isFulfilledBy_157 : decode cX1_isFulfilledBy 157 = .ok (.aload_n 0, 1) := by decide +kernel
theorem dX1_isFulfilledBy_158 : decode cX1_isFulfilledBy 158 = .ok (.dup, 1) := by decide +kernel
theorem dX1_isFulfilledBy_159 : decode cX1_isFulfilledBy 159 = .ok (.getfield 33, 3) := by decide +kernel
theorem dX1_isFulfilledBy_162 : decode cX1_isFulfilledBy 162 = .ok (.iconst 1, 1) := by decide +kernel
theorem dX1_isFulfilledBy_163 : decode cX1_isFulfilledBy 163 = .ok (.isub, 1) := by decide +kernel
theorem dX1_isFulfilledBy_164 : decode cX1_isFulfilledBy 164 = .ok (.putfield 33, 3) := by decide +kernel
theorem dX1_isFulfilledBy_167 : decode cX1_isFulfilledBy 167 = .ok (.aload_n 0, 1) := by decide +kernel
theorem dX1_isFulfilledBy_168 : decode cX1_isFulfilledBy 168 = .ok (.iload 5, 2) := by decide +kernel
theorem dX1_isFulfilledBy_170 : decode cX1_isFulfilledBy 170 = .ok (.invokevirtual 60, 3) := by decide +kernel
theorem dX1_isFulfilledBy_173 : decode cX1_isFulfilledBy 173 = .ok (.iinc 3 1, 3) := by decide +kernel
theorem dX1_isFulfilledBy_176 : decode cX1_isFulfilledBy 176 = .ok (.goto (-162), 3) := by decide +kernel
theorem dX1_isFulfilledBy_179 : decode cX1_isFulfilledBy 179 = .ok (.aload_n 0, 1) := by decide +kernel
theorem dX1_isFulfilledBy_180 : decode cX1_isFulfilledBy 180 = .ok (.invokevirtual 70, 3) := by decide +kernel
theorem dX1_isFulfilledBy_183 : decode cX1_isFulfilledBy 183 = .ok (.ireturn, 1) := by decide +kernel
theorem dX1_begin_0 : decode cX1_begin 0 = .ok (.aload_n 0, 1) := by decide +kernel
theorem dX1_begin_1 : decode cX1_begin 1 = .ok (.getfield 19, 3) := by decide +kernel
theorem dX1_begin_4 : decode cX1_begin 4 = .ok (.aload_n 0, 1) := by decide +kernel
theorem dX1_begin_5 : decode cX1_begin 5 = .ok (.getfield 33, 3) := by decide +kernel
theorem dX1_begin_8 : decode cX1_begin 8 = .ok (.iload_n 1, 1) := by decide +kernel
theorem dX1_begin_9 : decode cX1_begin 9 = .ok (.iastore, 1) := by decide +kernel
theorem dX1_begin_10 : decode cX1_begin 10 = .ok (.aload_n 0, 1) := by decide +kernel
theorem dX1_begin_11 : decode cX1_begin 11 = .ok (.getfield 23, 3) := by decide +kernel
theorem dX1_begin_14 : decode cX1_begin 14 = .ok (.aload_n 0, 1) := by decide +kernel
theorem dX1_begin_15 : decode cX1_begin 15 = .ok (.getfield 33, 3) := by decide +kernel
theorem dX1_begin_18 : decode cX1_begin 18 = .ok (.iconst 0, 1) := by decide +kernel
theorem dX1_begin_19 : decode cX1_begin 19 = .ok (.iastore, 1) := by decide +kernel
theorem dX1_begin_20 : decode cX1_begin 20 = .ok (.aload_n 0, 1) := by decide +kernel
theorem dX1_begin_21 : decode cX1_begin 21 = .ok (.getfield 26, 3) := by decide +kernel
theorem dX1_begin_24 : decode cX1_begin 24 = .ok (.aload_n 0, 1) := by decide +kernel
theorem dX1_begin_25 : decode cX1_begin 25 = .ok (.getfield 33, 3) := by decide +kernel
theorem dX1_begin_28 : decode cX1_begin 28 = .ok (.iconst 0, 1) := by decide +kernel
theorem dX1_begin_29 : decode cX1_begin 29 = .ok (.bastore, 1) := by decide +kernel
theorem dX1_begin_30 : decode cX1_begin 30 = .ok (.aload_n 0, 1) := by decide +kernel
theorem dX1_begin_31 : decode cX1_begin 31 = .ok (.getfield 30, 3) := by decide +kernel
theorem dX1_begin_34 : decode cX1_begin 34 = .ok (.aload_n 0, 1) := by decide +kernel
theorem dX1_begin_35 : decode cX1_begin 35 = .ok (.getfield 33, 3) := by decide +kernel
theorem dX1_begin_38 : decode cX1_begin 38 = .ok (.iconst 1, 1) := by decide +kernel
theorem dX1_begin_39 : decode cX1_begin 39 = .ok (.bastore, 1) := by decide +kernel
theorem dX1_begin_40 : decode cX1_begin 40 = .ok (.return_, 1) := by decide +kernel
theorem dX1_require_0 : decode cX1_require 0 = .ok (.aload_n 0, 1) := by decide +kernel
theorem dX1_require_1 : decode cX1_require 1 = .ok (.getfield 30, 3) := by decide +kernel
theorem dX1_require_4 : decode cX1_require 4 = .ok (.aload_n 0, 1) := by decide +kernel
theorem dX1_require_5 : decode cX1_require 5 = .ok (.getfield 33, 3) := by decide +kernel
theorem dX1_require_8 : decode cX1_require 8 = .ok (.aload_n 0, 1) := by decide +kernel
theorem dX1_require_9 : decode cX1_require 9 = .ok (.getfield 30, 3) := by decide +kernel
theorem dX1_require_12 : decode cX1_require 12 = .ok (.aload_n 0, 1) := by decide +kernel
theorem dX1_require_13 : decode cX1_require 13 = .ok (.getfield 33, 3) := by decide +kernel
theorem dX1_require_16 : decode cX1_require 16 = .ok (.baload, 1) := by decide +kernel
theorem dX1_require_17 : decode cX1_require 17 = .ok (.ifCond .eq 11, 3) := by decide +kernel
theorem dX1_require_20 : decode cX1_require 20 = .ok (.iload_n 1, 1) := by decide +kernel
theorem dX1_require_21 : decode cX1_require 21 = .ok (.ifCond .eq 7, 3) := by decide +kernel
theorem dX1_require_24 : decode cX1_require 24 = .ok (.iconst 1, 1) := by decide +kernel
theorem dX1_require_25 : decode cX1_require 25 = .ok (.goto 4, 3) := by decide +kernel
theorem dX1_require_28 : decode cX1_require 28 = .ok (.iconst 0, 1) := by decide +kernel
theorem dX1_require_29 : decode cX1_require 29 = .ok (.bastore, 1) := by decide +kernel
theorem dX1_require_30 : decode cX1_require 30 = .ok (.return_, 1) := by decide +kernel
theorem dX1_endAll_0 : decode cX1_endAll 0 = .ok (.aload_n 0, 1) := by decide +kernel
theorem dX1_endAll_1 : decode cX1_endAll 1 = .ok (.getfield 26, 3) := by decide +kernel
theorem dX1_endAll_4 : decode cX1_endAll 4 = .ok (.aload_n 0, 1) := by decide +kernel
theorem dX1_endAll_5 : decode cX1_endAll 5 = .ok (.getfield 33, 3) := by decide +kernel
theorem dX1_endAll_8 : decode cX1_endAll 8 = .ok (.aload_n 0, 1) := by decide +kernel
theorem dX1_endAll_9 : decode cX1_endAll 9 = .ok (.getfield 26, 3) := by decide +kernel
theorem dX1_endAll_12 : decode cX1_endAll 12 = .ok (.aload_n 0, 1) := by decide +kernel
theorem dX1_endAll_13 : decode cX1_endAll 13 = .ok (.getfield 33, 3) := by decide +kernel
theorem dX1_endAll_16 : decode cX1_endAll 16 = .ok (.baload, 1) := by decide +kernel
theorem dX1_endAll_17 : decode cX1_endAll 17 = .ok (.ifCond .ne 15, 3) := by decide +kernel
theorem dX1_endAll_20 : decode cX1_endAll 20 = .ok (.aload_n 0, 1) := by decide +kernel
theorem dX1_endAll_21 : decode cX1_endAll 21 = .ok (.getfield 30, 3) := by decide +kernel
theorem dX1_endAll_24 : decode cX1_endAll 24 = .ok (.aload_n 0, 1) := by decide +kernel
theorem dX1_endAll_25 : decode cX1_endAll 25 = .ok (.getfield 33, 3) := by decide +kernel
theorem dX1_endAll_28 : decode cX1_endAll 28 = .ok (.baload, 1) := by decide +kernel
theorem dX1_endAll_29 : decode cX1_endAll 29 = .ok (.ifCond .eq 7, 3) := by decide +kernel
theorem dX1_endAll_32 : decode cX1_endAll 32 = .ok (.iconst 1, 1) := by decide +kernel
theorem dX1_endAll_33 : decode cX1_endAll 33 = .ok (.goto 4, 3) := by decide +kernel
theorem dX1_endAll_36 : decode cX1_endAll 36 = .ok (.iconst 0, 1) := by decide +kernel
theorem dX1_endAll_37 : decode cX1_endAll 37 = .ok (.bastore, 1) := by decide +kernel
theorem dX1_endAll_38 : decode cX1_endAll 38 = .ok (.aload_n 0, 1) := by decide +kernel
theorem dX1_endAll_39 : decode cX1_endAll 39 = .ok (.getfield 30, 3) := by decide +kernel
theorem dX1_endAll_42 : decode cX1_endAll 42 = .ok (.aload_n 0, 1) := by decide +kernel
theorem dX1_endAll_43 : decode cX1_endAll 43 = .ok (.getfield 33, 3) := by decide +kernel
theorem dX1_endAll_46 : decode cX1_endAll 46 = .ok (.iconst 1, 1) := by decide +kernel
theorem dX1_endAll_47 : decode cX1_endAll 47 = .ok (.bastore, 1) := by decide +kernel
theorem dX1_endAll_48 : decode cX1_endAll 48 = .ok (.return_, 1) := by decide +kernel
theorem dX1_endCondition_0 : decode cX1_endCondition 0 = .ok (.aload_n 0, 1) := by decide +kernel
theorem dX1_endCondition_1 : decode cX1_endCondition 1 = .ok (.invokevirtual 64, 3) := by decide +kernel
theorem dX1_endCondition_4 : decode cX1_endCondition 4 = .ok (.aload_n 0, 1) := by decide +kernel
theorem dX1_endCondition_5 : decode cX1_endCondition 5 = .ok (.getfield 23, 3) := by decide +kernel
theorem dX1_endCondition_8 : decode cX1_endCondition 8 = .ok (.aload_n 0, 1) := by decide +kernel
theorem dX1_endCondition_9 : decode cX1_endCondition 9 = .ok (.getfield 33, 3) := by decide +kernel
theorem dX1_endCondition_12 : decode cX1_endCondition 12 = .ok (.dup2, 1) := by decide +kernel
theorem dX1_endCondition_13 : decode cX1_endCondition 13 = .ok (.iaload, 1) := by decide +kernel
theorem dX1_endCondition_14 : decode cX1_endCondition 14 = .ok (.aload_n 0, 1) := by decide +kernel
theorem dX1_endCondition_15 : decode cX1_endCondition 15 = .ok (.getfield 26, 3) := by decide +kernel
theorem dX1_endCondition_18 : decode cX1_endCondition 18 = .ok (.aload_n 0, 1) := by decide +kernel
theorem dX1_endCondition_19 : decode cX1_endCondition 19 = .ok (.getfield 33, 3) := by decide +kernel
theorem dX1_endCondition_22 : decode cX1_endCondition 22 = .ok (.baload, 1) := by decide +kernel
theorem dX1_endCondition_23 : decode cX1_endCondition 23 = .ok (.ifCond .eq 7, 3) := by decide +kernel
theorem dX1_endCondition_26 : decode cX1_endCondition 26 = .ok (.iconst 1, 1) := by decide +kernel
theorem dX1_endCondition_27 : decode cX1_endCondition 27 = .ok (.goto 4, 3) := by decide +kernel
theorem dX1_endCondition_30 : decode cX1_endCondition 30 = .ok (.iconst 0, 1) := by decide +kernel
theorem dX1_endCondition_31 : decode cX1_endCondition 31 = .ok (.iadd, 1) := by decide +kernel
theorem dX1_endCondition_32 : decode cX1_endCondition 32 = .ok (.iastore, 1) := by decide +kernel
theorem dX1_endCondition_33 : decode cX1_endCondition 33 = .ok (.aload_n 0, 1) := by decide +kernel
theorem dX1_endCondition_34 : decode cX1_endCondition 34 = .ok (.getfield 26, 3) := by decide +kernel
theorem dX1_endCondition_37 : decode cX1_endCondition 37 = .ok (.aload_n 0, 1) := by decide +kernel
theorem dX1_endCondition_38 : decode cX1_endCondition 38 = .ok (.getfield 33, 3) := by decide +kernel
theorem dX1_endCondition_41 : decode cX1_endCondition 41 = .ok (.iconst 0, 1) := by decide +kernel
theorem dX1_endCondition_42 : decode cX1_endCondition 42 = .ok (.bastore, 1) := by decide +kernel
theorem dX1_endCondition_43 : decode cX1_endCondition 43 = .ok (.return_, 1) := by decide +kernel
theorem dX1_end_0 : decode cX1_end 0 = .ok (.aload_n 0, 1) := by decide +kernel
theorem dX1_end_1 : decode cX1_end 1 = .ok (.invokevirtual 67, 3) := by decide +kernel
theorem dX1_end_4 : decode cX1_end 4 = .ok (.aload_n 0, 1) := by decide +kernel
theorem dX1_end_5 : decode cX1_end 5 = .ok (.getfield 23, 3) := by decide +kernel
theorem dX1_end_8 : decode cX1_end 8 = .ok (.aload_n 0, 1) := by decide +kernel
theorem dX1_end_9 : decode cX1_end 9 = .ok (.getfield 33, 3) := by decide +kernel
theorem dX1_end_12 : decode cX1_end 12 = .ok (.iaload, 1) := by decide +kernel
theorem dX1_end_13 : decode cX1_end 13 = .ok (.aload_n 0, 1) := by decide +kernel
theorem dX1_end_14 : decode cX1_end 14 = .ok (.getfield 19, 3) := by decide +kernel
theorem dX1_end_17 : decode cX1_end 17 = .ok (.aload_n 0, 1) := by decide +kernel
theorem dX1_end_18 : decode cX1_end 18 = .ok (.getfield 33, 3) := by decide +kernel
theorem dX1_end_21 : decode cX1_end 21 = .ok (.iaload, 1) := by decide +kernel
theorem dX1_end_22 : decode cX1_end 22 = .ok (.if_icmp .lt 7, 3) := by decide +kernel
theorem dX1_end_25 : decode cX1_end 25 = .ok (.iconst 1, 1) := by decide +kernel
theorem dX1_end_26 : decode cX1_end 26 = .ok (.goto 4, 3) := by decide +kernel
theorem dX1_end_29 : decode cX1_end 29 = .ok (.iconst 0, 1) := by decide +kernel
theorem dX1_end_30 : decode cX1_end 30 = .ok (.ireturn, 1) := by decide +kernel
theorem dX2_powerModQ_0 : decode cX2_powerModQ 0 = .ok (.iconst 1, 1) := by decide +kernel
theorem dX2_powerModQ_1 : decode cX2_powerModQ 1 = .ok (.istore_n 2, 1) := by decide +kernel
theorem dX2_powerModQ_2 : decode cX2_powerModQ 2 = .ok (.bipush 9, 2) := by decide +kernel
theorem dX2_powerModQ_4 : decode cX2_powerModQ 4 = .ok (.istore_n 3, 1) := by decide +kernel
theorem dX2_powerModQ_5 : decode cX2_powerModQ 5 = .ok (.iload_n 3, 1) := by decide +kernel
theorem dX2_powerModQ_6 : decode cX2_powerModQ 6 = .ok (.ifCond .lt 34, 3) := by decide +kernel
theorem dX2_powerModQ_9 : decode cX2_powerModQ 9 = .ok (.iload_n 2, 1) := by decide +kernel
theorem dX2_powerModQ_10 : decode cX2_powerModQ 10 = .ok (.iload_n 2, 1) := by decide +kernel
theorem dX2_powerModQ_11 : decode cX2_powerModQ 11 = .ok (.imul, 1) := by decide +kernel
theorem dX2_powerModQ_12 : decode cX2_powerModQ 12 = .ok (.sipush 2039, 3) := by decide +kernel
theorem dX2_powerModQ_15 : decode cX2_powerModQ 15 = .ok (.irem, 1) := by decide +kernel
theorem dX2_powerModQ_16 : decode cX2_powerModQ 16 = .ok (.istore_n 2, 1) := by decide +kernel
theorem dX2_powerModQ_17 : decode cX2_powerModQ 17 = .ok (.iload_n 1, 1) := by decide +kernel
theorem dX2_powerModQ_18 : decode cX2_powerModQ 18 = .ok (.iload_n 3, 1) := by decide +kernel
theorem dX2_powerModQ_19 : decode cX2_powerModQ 19 = .ok (.ishr, 1) := by decide +kernel
theorem dX2_powerModQ_20 : decode cX2_powerModQ 20 = .ok (.iconst 1, 1) := by decide +kernel
theorem dX2_powerModQ_21 : decode cX2_powerModQ 21 = .ok (.iand, 1) := by decide +kernel
theorem dX2_powerModQ_22 : decode cX2_powerModQ 22 = .ok (.iconst 1, 1) := by decide +kernel
theorem dX2_powerModQ_23 : decode cX2_powerModQ 23 = .ok (.if_icmp .ne 11, 3) := by decide +kernel
theorem dX2_powerModQ_26 : decode cX2_powerModQ 26 = .ok (.iload_n 2, 1) := by decide +kernel
theorem dX2_powerModQ_27 : decode cX2_powerModQ 27 = .ok (.iload_n 0, 1) := by decide +kernel
theorem dX2_powerModQ_28 : decode cX2_powerModQ 28 = .ok (.imul, 1) := by decide +kernel
theorem dX2_powerModQ_29 : decode cX2_powerModQ 29 = .ok (.sipush 2039, 3) := by decide +kernel
theorem dX2_powerModQ_32 : decode cX2_powerModQ 32 = .ok (.irem, 1) := by decide +kernel
theorem dX2_powerModQ_33 : decode cX2_powerModQ 33 = .ok (.istore_n 2, 1) := by decide +kernel
theorem dX2_powerModQ_34 : decode cX2_powerModQ 34 = .ok (.iinc 3 (-1), 3) := by decide +kernel
theorem dX2_powerModQ_37 : decode cX2_powerModQ 37 = .ok (.goto (-32), 3) := by decide +kernel
theorem dX2_powerModQ_40 : decode cX2_powerModQ 40 = .ok (.iload_n 2, 1) := by decide +kernel
theorem dX2_powerModQ_41 : decode cX2_powerModQ 41 = .ok (.ireturn, 1) := by decide +kernel
theorem dX2_commitmentTo_0 : decode cX2_commitmentTo 0 = .ok (.iconst 4, 1) := by decide +kernel
theorem dX2_commitmentTo_1 : decode cX2_commitmentTo 1 = .ok (.iload_n 0, 1) := by decide +kernel
theorem dX2_commitmentTo_2 : decode cX2_commitmentTo 2 = .ok (.invokestatic 9, 3) := by decide +kernel
theorem dX2_commitmentTo_5 : decode cX2_commitmentTo 5 = .ok (.ireturn, 1) := by decide +kernel
theorem dX2_inverse_0 : decode cX2_inverse 0 = .ok (.iconst 1, 1) := by decide +kernel
theorem dX2_inverse_1 : decode cX2_inverse 1 = .ok (.istore_n 1, 1) := by decide +kernel
theorem dX2_inverse_2 : decode cX2_inverse 2 = .ok (.bipush 9, 2) := by decide +kernel
theorem dX2_inverse_4 : decode cX2_inverse 4 = .ok (.istore_n 2, 1) := by decide +kernel
theorem dX2_inverse_5 : decode cX2_inverse 5 = .ok (.iload_n 2, 1) := by decide +kernel
theorem dX2_inverse_6 : decode cX2_inverse 6 = .ok (.ifCond .lt 36, 3) := by decide +kernel
theorem dX2_inverse_9 : decode cX2_inverse 9 = .ok (.iload_n 1, 1) := by decide +kernel
theorem dX2_inverse_10 : decode cX2_inverse 10 = .ok (.iload_n 1, 1) := by decide +kernel
theorem dX2_inverse_11 : decode cX2_inverse 11 = .ok (.imul, 1) := by decide +kernel
theorem dX2_inverse_12 : decode cX2_inverse 12 = .ok (.sipush 1019, 3) := by decide +kernel
theorem dX2_inverse_15 : decode cX2_inverse 15 = .ok (.irem, 1) := by decide +kernel
theorem dX2_inverse_16 : decode cX2_inverse 16 = .ok (.istore_n 1, 1) := by decide +kernel
theorem dX2_inverse_17 : decode cX2_inverse 17 = .ok (.sipush 1017, 3) := by decide +kernel
theorem dX2_inverse_20 : decode cX2_inverse 20 = .ok (.iload_n 2, 1) := by decide +kernel
theorem dX2_inverse_21 : decode cX2_inverse 21 = .ok (.ishr, 1) := by decide +kernel
theorem dX2_inverse_22 : decode cX2_inverse 22 = .ok (.iconst 1, 1) := by decide +kernel
theorem dX2_inverse_23 : decode cX2_inverse 23 = .ok (.iand, 1) := by decide +kernel
theorem dX2_inverse_24 : decode cX2_inverse 24 = .ok (.iconst 1, 1) := by decide +kernel
theorem dX2_inverse_25 : decode cX2_inverse 25 = .ok (.if_icmp .ne 11, 3) := by decide +kernel
theorem dX2_inverse_28 : decode cX2_inverse 28 = .ok (.iload_n 1, 1) := by decide +kernel
theorem dX2_inverse_29 : decode cX2_inverse 29 = .ok (.iload_n 0, 1) := by decide +kernel
theorem dX2_inverse_30 : decode cX2_inverse 30 = .ok (.imul, 1) := by decide +kernel
theorem dX2_inverse_31 : decode cX2_inverse 31 = .ok (.sipush 1019, 3) := by decide +kernel
theorem dX2_inverse_34 : decode cX2_inverse 34 = .ok (.irem, 1) := by decide +kernel
theorem dX2_inverse_35 : decode cX2_inverse 35 = .ok (.istore_n 1, 1) := by decide +kernel
theorem dX2_inverse_36 : decode cX2_inverse 36 = .ok (.iinc 2 (-1), 3) := by decide +kernel
theorem dX2_inverse_39 : decode cX2_inverse 39 = .ok (.goto (-34), 3) := by decide +kernel
theorem dX2_inverse_42 : decode cX2_inverse 42 = .ok (.iload_n 1, 1) := by decide +kernel
theorem dX2_inverse_43 : decode cX2_inverse 43 = .ok (.ireturn, 1) := by decide +kernel
theorem dX2_polynomialAt_0 : decode cX2_polynomialAt 0 = .ok (.iconst 0, 1) := by decide +kernel
theorem dX2_polynomialAt_1 : decode cX2_polynomialAt 1 = .ok (.istore_n 3, 1) := by decide +kernel
theorem dX2_polynomialAt_2 : decode cX2_polynomialAt 2 = .ok (.iload_n 2, 1) := by decide +kernel
theorem dX2_polynomialAt_3 : decode cX2_polynomialAt 3 = .ok (.iconst 1, 1) := by decide +kernel
theorem dX2_polynomialAt_4 : decode cX2_polynomialAt 4 = .ok (.isub, 1) := by decide +kernel
theorem dX2_polynomialAt_5 : decode cX2_polynomialAt 5 = .ok (.istore 4, 2) := by decide +kernel
theorem dX2_polynomialAt_7 : decode cX2_polynomialAt 7 = .ok (.iload 4, 2) := by decide +kernel
theorem dX2_polynomialAt_9 : decode cX2_polynomialAt 9 = .ok (.ifCond .lt 22, 3) := by decide +kernel
theorem dX2_polynomialAt_12 : decode cX2_polynomialAt 12 = .ok (.iload_n 3, 1) := by decide +kernel
theorem dX2_polynomialAt_13 : decode cX2_polynomialAt 13 = .ok (.iload_n 0, 1) := by decide +kernel
theorem dX2_polynomialAt_14 : decode cX2_polynomialAt 14 = .ok (.imul, 1) := by decide +kernel
theorem dX2_polynomialAt_15 : decode cX2_polynomialAt 15 = .ok (.aload_n 1, 1) := by decide +kernel
theorem dX2_polynomialAt_16 : decode cX2_polynomialAt 16 = .ok (.iload 4, 2) := by decide +kernel
theorem dX2_polynomialAt_18 : decode cX2_polynomialAt 18 = .ok (.iaload, 1) := by decide +kernel
theorem dX2_polynomialAt_19 : decode cX2_polynomialAt 19 = .ok (.iadd, 1) := by decide +kernel
theorem dX2_polynomialAt_20 : decode cX2_polynomialAt 20 = .ok (.sipush 1019, 3) := by decide +kernel
theorem dX2_polynomialAt_23 : decode cX2_polynomialAt 23 = .ok (.irem, 1) := by decide +kernel
theorem dX2_polynomialAt_24 : decode cX2_polynomialAt 24 = .ok (.istore_n 3, 1) := by decide +kernel
theorem dX2_polynomialAt_25 : decode cX2_polynomialAt 25 = .ok (.iinc 4 (-1), 3) := by decide +kernel
theorem dX2_polynomialAt_28 : decode cX2_polynomialAt 28 = .ok (.goto (-21), 3) := by decide +kernel
theorem dX2_polynomialAt_31 : decode cX2_polynomialAt 31 = .ok (.iload_n 3, 1) := by decide +kernel
theorem dX2_polynomialAt_32 : decode cX2_polynomialAt 32 = .ok (.ireturn, 1) := by decide +kernel
theorem dX2_checkDigit_0 : decode cX2_checkDigit 0 = .ok (.bipush 7, 2) := by decide +kernel
theorem dX2_checkDigit_2 : decode cX2_checkDigit 2 = .ok (.iload_n 0, 1) := by decide +kernel
theorem dX2_checkDigit_3 : decode cX2_checkDigit 3 = .ok (.imul, 1) := by decide +kernel
theorem dX2_checkDigit_4 : decode cX2_checkDigit 4 = .ok (.iconst 3, 1) := by decide +kernel
theorem dX2_checkDigit_5 : decode cX2_checkDigit 5 = .ok (.iload_n 1, 1) := by decide +kernel
theorem dX2_checkDigit_6 : decode cX2_checkDigit 6 = .ok (.imul, 1) := by decide +kernel
theorem dX2_checkDigit_7 : decode cX2_checkDigit 7 = .ok (.iadd, 1) := by decide +kernel
theorem dX2_checkDigit_8 : decode cX2_checkDigit 8 = .ok (.iload_n 2, 1) := by decide +kernel
theorem dX2_checkDigit_9 : decode cX2_checkDigit 9 = .ok (.iadd, 1) := by decide +kernel
theorem dX2_checkDigit_10 : decode cX2_checkDigit 10 = .ok (.bipush 10, 2) := by decide +kernel
theorem dX2_checkDigit_12 : decode cX2_checkDigit 12 = .ok (.irem, 1) := by decide +kernel
theorem dX2_checkDigit_13 : decode cX2_checkDigit 13 = .ok (.ireturn, 1) := by decide +kernel
theorem dX3_init_0 : decode cX3_init 0 = .ok (.aload_n 0, 1) := by decide +kernel
theorem dX3_init_1 : decode cX3_init 1 = .ok (.invokespecial 3, 3) := by decide +kernel
theorem dX3_init_4 : decode cX3_init 4 = .ok (.aload_n 0, 1) := by decide +kernel
theorem dX3_init_5 : decode cX3_init 5 = .ok (.aload_n 1, 1) := by decide +kernel
theorem dX3_init_6 : decode cX3_init 6 = .ok (.putfield 9, 3) := by decide +kernel
theorem dX3_init_9 : decode cX3_init 9 = .ok (.aload_n 0, 1) := by decide +kernel
theorem dX3_init_10 : decode cX3_init 10 = .ok (.iload_n 2, 1) := by decide +kernel
theorem dX3_init_11 : decode cX3_init 11 = .ok (.putfield 15, 3) := by decide +kernel
theorem dX3_init_14 : decode cX3_init 14 = .ok (.aload_n 0, 1) := by decide +kernel
theorem dX3_init_15 : decode cX3_init 15 = .ok (.iload_n 3, 1) := by decide +kernel
theorem dX3_init_16 : decode cX3_init 16 = .ok (.putfield 19, 3) := by decide +kernel
theorem dX3_init_19 : decode cX3_init 19 = .ok (.aload_n 0, 1) := by decide +kernel
theorem dX3_init_20 : decode cX3_init 20 = .ok (.iload 4, 2) := by decide +kernel
theorem dX3_init_22 : decode cX3_init 22 = .ok (.putfield 22, 3) := by decide +kernel
theorem dX3_init_25 : decode cX3_init 25 = .ok (.aload_n 0, 1) := by decide +kernel
theorem dX3_init_26 : decode cX3_init 26 = .ok (.aload 5, 2) := by decide +kernel
theorem dX3_init_28 : decode cX3_init 28 = .ok (.putfield 25, 3) := by decide +kernel
theorem dX3_init_31 : decode cX3_init 31 = .ok (.return_, 1) := by decide +kernel
theorem dX3_from_0 : decode cX3_from 0 = .ok (.aload_n 0, 1) := by decide +kernel
theorem dX3_from_1 : decode cX3_from 1 = .ok (.invokestatic 29, 3) := by decide +kernel
theorem dX3_from_4 : decode cX3_from 4 = .ok (.astore_n 1, 1) := by decide +kernel
theorem dX3_from_5 : decode cX3_from 5 = .ok (.new 35, 3) := by decide +kernel
theorem dX3_from_8 : decode cX3_from 8 = .ok (.dup, 1) := by decide +kernel
theorem dX3_from_9 : decode cX3_from 9 = .ok (.aload_n 1, 1) := by decide +kernel
theorem dX3_from_10 : decode cX3_from 10 = .ok (.invokespecial 37, 3) := by decide +kernel
theorem dX3_from_13 : decode cX3_from 13 = .ok (.astore_n 2, 1) := by decide +kernel
theorem dX3_from_14 : decode cX3_from 14 = .ok (.sipush 256, 3) := by decide +kernel
theorem dX3_from_17 : decode cX3_from 17 = .ok (.newarray .boolean, 2) := by decide +kernel
theorem dX3_from_19 : decode cX3_from 19 = .ok (.astore_n 3, 1) := by decide +kernel
theorem dX3_from_20 : decode cX3_from 20 = .ok (.iconst 0, 1) := by decide +kernel
theorem dX3_from_21 : decode cX3_from 21 = .ok (.istore 4, 2) := by decide +kernel
theorem dX3_from_23 : decode cX3_from 23 = .ok (.iload 4, 2) := by decide +kernel
theorem dX3_from_25 : decode cX3_from 25 = .ok (.sipush 256, 3) := by decide +kernel
theorem dX3_from_28 : decode cX3_from 28 = .ok (.if_icmp .ge 19, 3) := by decide +kernel
theorem dX3_from_31 : decode cX3_from 31 = .ok (.aload_n 3, 1) := by decide +kernel
theorem dX3_from_32 : decode cX3_from 32 = .ok (.iload 4, 2) := by decide +kernel
theorem dX3_from_34 : decode cX3_from 34 = .ok (.aload_n 2, 1) := by decide +kernel
theorem dX3_from_35 : decode cX3_from 35 = .ok (.iload 4, 2) := by decide +kernel
theorem dX3_from_37 : decode cX3_from 37 = .ok (.invokevirtual 40, 3) := by decide +kernel
theorem dX3_from_40 : decode cX3_from 40 = .ok (.bastore, 1) := by decide +kernel
theorem dX3_from_41 : decode cX3_from 41 = .ok (.iinc 4 1, 3) := by decide +kernel
theorem dX3_from_44 : decode cX3_from 44 = .ok (.goto (-21), 3) := by decide +kernel
theorem dX3_from_47 : decode cX3_from 47 = .ok (.iconst 0, 1) := by decide +kernel
theorem dX3_from_48 : decode cX3_from 48 = .ok (.istore 4, 2) := by decide +kernel
theorem dX3_from_50 : decode cX3_from 50 = .ok (.iconst 0, 1) := by decide +kernel
theorem dX3_from_51 : decode cX3_from 51 = .ok (.istore 5, 2) := by decide +kernel
theorem dX3_from_53 : decode cX3_from 53 = .ok (.iconst 0, 1) := by decide +kernel
theorem dX3_from_54 : decode cX3_from 54 = .ok (.istore 6, 2) := by decide +kernel
theorem dX3_from_56 : decode cX3_from 56 = .ok (.iload 6, 2) := by decide +kernel
theorem dX3_from_58 : decode cX3_from 58 = .ok (.aload_n 1, 1) := by decide +kernel
theorem dX3_from_59 : decode cX3_from 59 = .ok (.invokevirtual 44, 3) := by decide +kernel
theorem dX3_from_62 : decode cX3_from 62 = .ok (.if_icmp .ge 52, 3) := by decide +kernel
theorem dX3_from_65 : decode cX3_from 65 = .ok (.aload_n 1, 1) := by decide +kernel
theorem dX3_from_66 : decode cX3_from 66 = .ok (.iload 6, 2) := by decide +kernel
theorem dX3_from_68 : decode cX3_from 68 = .ok (.invokestatic 50, 3) := by decide +kernel
theorem dX3_from_71 : decode cX3_from 71 = .ok (.ifCond .eq 25, 3) := by decide +kernel
theorem dX3_from_74 : decode cX3_from 74 = .ok (.iload 5, 2) := by decide +kernel
theorem dX3_from_76 : decode cX3_from 76 = .ok (.iconst 1, 1) := by decide +kernel
theorem dX3_from_77 : decode cX3_from 77 = .ok (.aload_n 1, 1) := by decide +kernel
theorem dX3_from_78 : decode cX3_from 78 = .ok (.iload 6, 2) := by decide +kernel
theorem dX3_from_80 : decode cX3_from 80 = .ok (.invokevirtual 54, 3) := by decide +kernel
theorem dX3_from_83 : decode cX3_from 83 = .ok (.bipush 48, 2) := by decide +kernel
theorem dX3_from_85 : decode cX3_from 85 = .ok (.isub, 1) := by decide +kernel
theorem dX3_from_86 : decode cX3_from 86 = .ok (.ishl, 1) := by decide +kernel
theorem dX3_from_87 : decode cX3_from 87 = .ok (.ior, 1) := by decide +kernel
theorem dX3_from_88 : decode cX3_from 88 = .ok (.istore 5, 2) := by decide +kernel
theorem dX3_from_90 : decode cX3_from 90 = .ok (.iinc 4 1, 3) := by decide +kernel
theorem dX3_from_93 : decode cX3_from 93 = .ok (.goto 15, 3) := by decide +kernel
theorem dX3_from_96 : decode cX3_from 96 = .ok (.aload_n 1, 1) := by decide +kernel
theorem dX3_from_97 : decode cX3_from 97 = .ok (.iload 6, 2) := by decide +kernel
theorem dX3_from_99 : decode cX3_from 99 = .ok (.invokestatic 58, 3) := by decide +kernel
theorem dX3_from_102 : decode cX3_from 102 = .ok (.ifCond .eq 6, 3) := by decide +kernel
theorem dX3_from_105 : decode cX3_from 105 = .ok (.iinc 4 1, 3) := by decide +kernel
theorem dX3_from_108 : decode cX3_from 108 = .ok (.iinc 6 1, 3) := by decide +kernel
theorem dX3_from_111 : decode cX3_from 111 = .ok (.goto (-55), 3) := by decide +kernel
theorem dX3_from_114 : decode cX3_from 114 = .ok (.new 10, 3) := by decide +kernel
theorem dX3_from_117 : decode cX3_from 117 = .ok (.dup, 1) := by decide +kernel
theorem dX3_from_118 : decode cX3_from 118 = .ok (.aload_n 1, 1) := by decide +kernel
theorem dX3_from_119 : decode cX3_from 119 = .ok (.iload 4, 2) := by decide +kernel
theorem dX3_from_121 : decode cX3_from 121 = .ok (.aload_n 1, 1) := by decide +kernel
theorem dX3_from_122 : decode cX3_from 122 = .ok (.invokestatic 61, 3) := by decide +kernel
theorem dX3_from_125 : decode cX3_from 125 = .ok (.iload 5, 2) := by decide +kernel
theorem dX3_from_127 : decode cX3_from 127 = .ok (.aload_n 3, 1) := by decide +kernel
theorem dX3_from_128 : decode cX3_from 128 = .ok (.invokespecial 65, 3) := by decide +kernel
theorem dX3_from_131 : decode cX3_from 131 = .ok (.areturn, 1) := by decide +kernel
theorem dX4_init_0 : decode cX4_init 0 = .ok (.aload_n 0, 1) := by decide +kernel
theorem dX4_init_1 : decode cX4_init 1 = .ok (.invokespecial 1, 3) := by decide +kernel
theorem dX4_init_4 : decode cX4_init 4 = .ok (.aload_n 0, 1) := by decide +kernel
theorem dX4_init_5 : decode cX4_init 5 = .ok (.aload_n 1, 1) := by decide +kernel
theorem dX4_init_6 : decode cX4_init 6 = .ok (.putfield 7, 3) := by decide +kernel
theorem dX4_init_9 : decode cX4_init 9 = .ok (.aload_n 0, 1) := by decide +kernel
theorem dX4_init_10 : decode cX4_init 10 = .ok (.aload_n 1, 1) := by decide +kernel
theorem dX4_init_11 : decode cX4_init 11 = .ok (.invokevirtual 13, 3) := by decide +kernel
theorem dX4_init_14 : decode cX4_init 14 = .ok (.iconst 1, 1) := by decide +kernel
theorem dX4_init_15 : decode cX4_init 15 = .ok (.iadd, 1) := by decide +kernel
theorem dX4_init_16 : decode cX4_init 16 = .ok (.newarray .boolean, 2) := by decide +kernel
theorem dX4_init_18 : decode cX4_init 18 = .ok (.putfield 19, 3) := by decide +kernel
theorem dX4_init_21 : decode cX4_init 21 = .ok (.aload_n 0, 1) := by decide +kernel
theorem dX4_init_22 : decode cX4_init 22 = .ok (.iconst 0, 1) := by decide +kernel
theorem dX4_init_23 : decode cX4_init 23 = .ok (.putfield 23, 3) := by decide +kernel
theorem dX4_init_26 : decode cX4_init 26 = .ok (.return_, 1) := by decide +kernel
theorem dX4_read_0 : decode cX4_read 0 = .ok (.iconst 0, 1) := by decide +kernel
theorem dX4_read_1 : decode cX4_read 1 = .ok (.istore_n 1, 1) := by decide +kernel
theorem dX4_read_2 : decode cX4_read 2 = .ok (.iload_n 1, 1) := by decide +kernel
theorem dX4_read_3 : decode cX4_read 3 = .ok (.aload_n 0, 1) := by decide +kernel
theorem dX4_read_4 : decode cX4_read 4 = .ok (.getfield 7, 3) := by decide +kernel
theorem dX4_read_7 : decode cX4_read 7 = .ok (.invokevirtual 13, 3) := by decide +kernel
theorem dX4_read_10 : decode cX4_read 10 = .ok (.if_icmp .ge 19, 3) := by decide +kernel
theorem dX4_read_13 : decode cX4_read 13 = .ok (.aload_n 0, 1) := by decide +kernel
theorem dX4_read_14 : decode cX4_read 14 = .ok (.iload_n 1, 1) := by decide +kernel
theorem dX4_read_15 : decode cX4_read 15 = .ok (.invokevirtual 27, 3) := by decide +kernel
theorem dX4_read_18 : decode cX4_read 18 = .ok (.ifCond .ne 5, 3) := by decide +kernel
theorem dX4_read_21 : decode cX4_read 21 = .ok (.iload_n 1, 1) := by decide +kernel
theorem dX4_read_22 : decode cX4_read 22 = .ok (.ireturn, 1) := by decide +kernel
theorem dX4_read_23 : decode cX4_read 23 = .ok (.iinc 1 1, 3) := by decide +kernel
theorem dX4_read_26 : decode cX4_read 26 = .ok (.goto (-24), 3) := by decide +kernel
theorem dX4_read_29 : decode cX4_read 29 = .ok (.aload_n 0, 1) := by decide +kernel
theorem dX4_read_30 : decode cX4_read 30 = .ok (.getfield 23, 3) := by decide +kernel
theorem dX4_read_33 : decode cX4_read 33 = .ok (.iconst 4, 1) := by decide +kernel
theorem dX4_read_34 : decode cX4_read 34 = .ok (.if_icmp .ne 14, 3) := by decide +kernel
theorem dX4_read_37 : decode cX4_read 37 = .ok (.aload_n 0, 1) := by decide +kernel
theorem dX4_read_38 : decode cX4_read 38 = .ok (.getfield 31, 3) := by decide +kernel
theorem dX4_read_41 : decode cX4_read 41 = .ok (.ifCond .ne 7, 3) := by decide +kernel
theorem dX4_read_44 : decode cX4_read 44 = .ok (.iconst (-1), 1) := by decide +kernel
theorem dX4_read_45 : decode cX4_read 45 = .ok (.goto 10, 3) := by decide +kernel
theorem dX4_read_48 : decode cX4_read 48 = .ok (.aload_n 0, 1) := by decide +kernel
theorem dX4_read_49 : decode cX4_read 49 = .ok (.getfield 7, 3) := by decide +kernel
theorem dX4_read_52 : decode cX4_read 52 = .ok (.invokevirtual 13, 3) := by decide +kernel
theorem dX4_read_55 : decode cX4_read 55 = .ok (.ireturn, 1) := by decide +kernel
theorem dX4_takes_0 : decode cX4_takes 0 = .ok (.aload_n 0, 1) := by decide +kernel
theorem dX4_takes_1 : decode cX4_takes 1 = .ok (.getfield 7, 3) := by decide +kernel
theorem dX4_takes_4 : decode cX4_takes 4 = .ok (.iload_n 1, 1) := by decide +kernel
theorem dX4_takes_5 : decode cX4_takes 5 = .ok (.invokevirtual 34, 3) := by decide +kernel
theorem dX4_takes_8 : decode cX4_takes 8 = .ok (.istore_n 2, 1) := by decide +kernel
theorem dX4_takes_9 : decode cX4_takes 9 = .ok (.aload_n 0, 1) := by decide +kernel
theorem dX4_takes_10 : decode cX4_takes 10 = .ok (.getfield 23, 3) := by decide +kernel
theorem dX4_takes_13 : decode cX4_takes 13 = .ok (.tableswitch 89 0 3 #[31, 38, 55, 72], 31) := by decide +kernel
theorem dX4_takes_44 : decode cX4_takes 44 = .ok (.aload_n 0, 1) := by decide +kernel
theorem dX4_takes_45 : decode cX4_takes 45 = .ok (.iload_n 1, 1) := by decide +kernel
theorem dX4_takes_46 : decode cX4_takes 46 = .ok (.iload_n 2, 1) := by decide +kernel
theorem dX4_takes_47 : decode cX4_takes 47 = .ok (.invokevirtual 38, 3) := by decide +kernel
theorem dX4_takes_50 : decode cX4_takes 50 = .ok (.ireturn, 1) := by decide +kernel
theorem dX4_takes_51 : decode cX4_takes 51 = .ok (.aload_n 0, 1) := by decide +kernel
theorem dX4_takes_52 : decode cX4_takes 52 = .ok (.iconst 2, 1) := by decide +kernel
theorem dX4_takes_53 : decode cX4_takes 53 = .ok (.putfield 23, 3) := by decide +kernel
theorem dX4_takes_56 : decode cX4_takes 56 = .ok (.iload_n 2, 1) := by decide +kernel
theorem dX4_takes_57 : decode cX4_takes 57 = .ok (.bipush 111, 2) := by decide +kernel
theorem dX4_takes_59 : decode cX4_takes 59 = .ok (.if_icmp .ne 7, 3) := by decide +kernel
theorem dX4_takes_62 : decode cX4_takes 62 = .ok (.iconst 1, 1) := by decide +kernel
theorem dX4_takes_63 : decode cX4_takes 63 = .ok (.goto 4, 3) := by decide +kernel
theorem dX4_takes_66 : decode cX4_takes 66 = .ok (.iconst 0, 1) := by decide +kernel
theorem dX4_takes_67 : decode cX4_takes 67 = .ok (.ireturn, 1) := by decide +kernel
theorem dX4_takes_68 : decode cX4_takes 68 = .ok (.aload_n 0, 1) := by decide +kernel
theorem dX4_takes_69 : decode cX4_takes 69 = .ok (.iconst 3, 1) := by decide +kernel
theorem dX4_takes_70 : decode cX4_takes 70 = .ok (.putfield 23, 3) := by decide +kernel
theorem dX4_takes_73 : decode cX4_takes 73 = .ok (.iload_n 2, 1) := by decide +kernel
theorem dX4_takes_74 : decode cX4_takes 74 = .ok (.bipush 102, 2) := by decide +kernel
theorem dX4_takes_76 : decode cX4_takes 76 = .ok (.if_icmp .ne 7, 3) := by decide +kernel
theorem dX4_takes_79 : decode cX4_takes 79 = .ok (.iconst 1, 1) := by decide +kernel
theorem dX4_takes_80 : decode cX4_takes 80 = .ok (.goto 4, 3) := by decide +kernel
theorem dX4_takes_83 : decode cX4_takes 83 = .ok (.iconst 0, 1) := by decide +kernel
theorem dX4_takes_84 : decode cX4_takes 84 = .ok (.ireturn, 1) := by decide +kernel
theorem dX4_takes_85 : decode cX4_takes 85 = .ok (.aload_n 0, 1) := by decide +kernel
theorem dX4_takes_86 : decode cX4_takes 86 = .ok (.iconst 1, 1) := by decide +kernel
theorem dX4_takes_87 : decode cX4_takes 87 = .ok (.invokevirtual 42, 3) := by decide +kernel
theorem dX4_takes_90 : decode cX4_takes 90 = .ok (.iload_n 2, 1) := by decide +kernel
theorem dX4_takes_91 : decode cX4_takes 91 = .ok (.bipush 40, 2) := by decide +kernel
theorem dX4_takes_93 : decode cX4_takes 93 = .ok (.if_icmp .ne 7, 3) := by decide +kernel
theorem dX4_takes_96 : decode cX4_takes 96 = .ok (.iconst 1, 1) := by decide +kernel
theorem dX4_takes_97 : decode cX4_takes 97 = .ok (.goto 4, 3) := by decide +kernel
theorem dX4_takes_100 : decode cX4_takes 100 = .ok (.iconst 0, 1) := by decide +kernel
theorem dX4_takes_101 : decode cX4_takes 101 = .ok (.ireturn, 1) := by decide +kernel
theorem dX4_takes_102 : decode cX4_takes 102 = .ok (.aload_n 0, 1) := by decide +kernel
theorem dX4_takes_103 : decode cX4_takes 103 = .ok (.iload_n 2, 1) := by decide +kernel
theorem dX4_takes_104 : decode cX4_takes 104 = .ok (.invokevirtual 46, 3) := by decide +kernel
theorem dX4_takes_107 : decode cX4_takes 107 = .ok (.ireturn, 1) := by decide +kernel
theorem dX4_takesBeginOfPart_0 : decode cX4_takesBeginOfPart 0 = .ok (.iload_n 2, 1) := by decide +kernel
theorem dX4_takesBeginOfPart_1 : decode cX4_takesBeginOfPart 1 = .ok (.bipush 40, 2) := by decide +kernel
theorem dX4_takesBeginOfPart_3 : decode cX4_takesBeginOfPart 3 = .ok (.if_icmp .ne 10, 3) := by decide +kernel
theorem dX4_takesBeginOfPart_6 : decode cX4_takesBeginOfPart 6 = .ok (.aload_n 0, 1) := by decide +kernel
theorem dX4_takesBeginOfPart_7 : decode cX4_takesBeginOfPart 7 = .ok (.iconst 0, 1) := by decide +kernel
theorem dX4_takesBeginOfPart_8 : decode cX4_takesBeginOfPart 8 = .ok (.invokevirtual 42, 3) := by decide +kernel
theorem dX4_takesBeginOfPart_11 : decode cX4_takesBeginOfPart 11 = .ok (.iconst 1, 1) := by decide +kernel
theorem dX4_takesBeginOfPart_12 : decode cX4_takesBeginOfPart 12 = .ok (.ireturn, 1) := by decide +kernel
theorem dX4_takesBeginOfPart_13 : decode cX4_takesBeginOfPart 13 = .ok (.iload_n 2, 1) := by decide +kernel
theorem dX4_takesBeginOfPart_14 : decode cX4_takesBeginOfPart 14 = .ok (.bipush 56, 2) := by decide +kernel
theorem dX4_takesBeginOfPart_16 : decode cX4_takesBeginOfPart 16 = .ok (.if_icmp .eq 20, 3) := by decide +kernel
theorem dX4_takesBeginOfPart_19 : decode cX4_takesBeginOfPart 19 = .ok (.iload_n 2, 1) := by decide +kernel
theorem dX4_takesBeginOfPart_20 : decode cX4_takesBeginOfPart 20 = .ok (.bipush 57, 2) := by decide +kernel
theorem dX4_takesBeginOfPart_22 : decode cX4_takesBeginOfPart 22 = .ok (.if_icmp .eq 14, 3) := by decide +kernel
theorem dX4_takesBeginOfPart_25 : decode cX4_takesBeginOfPart 25 = .ok (.aload_n 0, 1) := by decide +kernel
theorem dX4_takesBeginOfPart_26 : decode cX4_takesBeginOfPart 26 = .ok (.getfield 7, 3) := by decide +kernel
theorem dX4_takesBeginOfPart_29 : decode cX4_takesBeginOfPart 29 = .ok (.iload_n 1, 1) := by decide +kernel
theorem dX4_takesBeginOfPart_30 : decode cX4_takesBeginOfPart 30 = .ok (.invokestatic 50, 3) := by decide +kernel
theorem dX4_takesBeginOfPart_33 : decode cX4_takesBeginOfPart 33 = .ok (.ifCond .eq 10, 3) := by decide +kernel
theorem dX4_takesBeginOfPart_36 : decode cX4_takesBeginOfPart 36 = .ok (.aload_n 0, 1) := by decide +kernel
theorem dX4_takesBeginOfPart_37 : decode cX4_takesBeginOfPart 37 = .ok (.iconst 1, 1) := by decide +kernel
theorem dX4_takesBeginOfPart_38 : decode cX4_takesBeginOfPart 38 = .ok (.putfield 23, 3) := by decide +kernel
theorem dX4_takesBeginOfPart_41 : decode cX4_takesBeginOfPart 41 = .ok (.iconst 1, 1) := by decide +kernel
theorem dX4_takesBeginOfPart_42 : decode cX4_takesBeginOfPart 42 = .ok (.ireturn, 1) := by decide +kernel
theorem dX4_takesBeginOfPart_43 : decode cX4_takesBeginOfPart 43 = .ok (.aload_n 0, 1) := by decide +kernel
theorem dX4_takesBeginOfPart_44 : decode cX4_takesBeginOfPart 44 = .ok (.iconst 4, 1) := by decide +kernel
theorem dX4_takesBeginOfPart_45 : decode cX4_takesBeginOfPart 45 = .ok (.putfield 23, 3) := by decide +kernel
theorem dX4_takesBeginOfPart_48 : decode cX4_takesBeginOfPart 48 = .ok (.aload_n 0, 1) := by decide +kernel
theorem dX4_takesBeginOfPart_49 : decode cX4_takesBeginOfPart 49 = .ok (.getfield 7, 3) := by decide +kernel
theorem dX4_takesBeginOfPart_52 : decode cX4_takesBeginOfPart 52 = .ok (.iload_n 1, 1) := by decide +kernel
theorem dX4_takesBeginOfPart_53 : decode cX4_takesBeginOfPart 53 = .ok (.invokestatic 56, 3) := by decide +kernel
theorem dX4_takesBeginOfPart_56 : decode cX4_takesBeginOfPart 56 = .ok (.ireturn, 1) := by decide +kernel
theorem dX4_takesBehindPart_0 : decode cX4_takesBehindPart 0 = .ok (.iload_n 1, 1) := by decide +kernel
theorem dX4_takesBehindPart_1 : decode cX4_takesBehindPart 1 = .ok (.bipush 41, 2) := by decide +kernel
theorem dX4_takesBehindPart_3 : decode cX4_takesBehindPart 3 = .ok (.if_icmp .ne 22, 3) := by decide +kernel
theorem dX4_takesBehindPart_6 : decode cX4_takesBehindPart 6 = .ok (.aload_n 0, 1) := by decide +kernel
theorem dX4_takesBehindPart_7 : decode cX4_takesBehindPart 7 = .ok (.getfield 31, 3) := by decide +kernel
theorem dX4_takesBehindPart_10 : decode cX4_takesBehindPart 10 = .ok (.ifCond .le 15, 3) := by decide +kernel
theorem dX4_takesBehindPart_13 : decode cX4_takesBehindPart 13 = .ok (.aload_n 0, 1) := by decide +kernel
theorem dX4_takesBehindPart_14 : decode cX4_takesBehindPart 14 = .ok (.dup, 1) := by decide +kernel
theorem dX4_takesBehindPart_15 : decode cX4_takesBehindPart 15 = .ok (.getfield 31, 3) := by decide +kernel
theorem dX4_takesBehindPart_18 : decode cX4_takesBehindPart 18 = .ok (.iconst 1, 1) := by decide +kernel
theorem dX4_takesBehindPart_19 : decode cX4_takesBehindPart 19 = .ok (.isub, 1) := by decide +kernel
theorem dX4_takesBehindPart_20 : decode cX4_takesBehindPart 20 = .ok (.putfield 31, 3) := by decide +kernel
theorem dX4_takesBehindPart_23 : decode cX4_takesBehindPart 23 = .ok (.iconst 1, 1) := by decide +kernel
theorem dX4_takesBehindPart_24 : decode cX4_takesBehindPart 24 = .ok (.ireturn, 1) := by decide +kernel
theorem dX4_takesBehindPart_25 : decode cX4_takesBehindPart 25 = .ok (.aload_n 0, 1) := by decide +kernel
theorem dX4_takesBehindPart_26 : decode cX4_takesBehindPart 26 = .ok (.iconst 0, 1) := by decide +kernel
theorem dX4_takesBehindPart_27 : decode cX4_takesBehindPart 27 = .ok (.putfield 23, 3) := by decide +kernel
theorem dX4_takesBehindPart_30 : decode cX4_takesBehindPart 30 = .ok (.iload_n 1, 1) := by decide +kernel
theorem dX4_takesBehindPart_31 : decode cX4_takesBehindPart 31 = .ok (.bipush 38, 2) := by decide +kernel
theorem dX4_takesBehindPart_33 : decode cX4_takesBehindPart 33 = .ok (.if_icmp .eq 27, 3) := by decide +kernel
theorem dX4_takesBehindPart_36 : decode cX4_takesBehindPart 36 = .ok (.iload_n 1, 1) := by decide +kernel
theorem dX4_takesBehindPart_37 : decode cX4_takesBehindPart 37 = .ok (.bipush 124, 2) := by decide +kernel
theorem dX4_takesBehindPart_39 : decode cX4_takesBehindPart 39 = .ok (.if_icmp .eq 21, 3) := by decide +kernel
theorem dX4_takesBehindPart_42 : decode cX4_takesBehindPart 42 = .ok (.iload_n 1, 1) := by decide +kernel
theorem dX4_takesBehindPart_43 : decode cX4_takesBehindPart 43 = .ok (.bipush 44, 2) := by decide +kernel
theorem dX4_takesBehindPart_45 : decode cX4_takesBehindPart 45 = .ok (.if_icmp .ne 19, 3) := by decide +kernel
theorem dX4_takesBehindPart_48 : decode cX4_takesBehindPart 48 = .ok (.aload_n 0, 1) := by decide +kernel
theorem dX4_takesBehindPart_49 : decode cX4_takesBehindPart 49 = .ok (.getfield 19, 3) := by decide +kernel
theorem dX4_takesBehindPart_52 : decode cX4_takesBehindPart 52 = .ok (.aload_n 0, 1) := by decide +kernel
theorem dX4_takesBehindPart_53 : decode cX4_takesBehindPart 53 = .ok (.getfield 31, 3) := by decide +kernel
theorem dX4_takesBehindPart_56 : decode cX4_takesBehindPart 56 = .ok (.baload, 1) := by decide +kernel
theorem dX4_takesBehindPart_57 : decode cX4_takesBehindPart 57 = .ok (.ifCond .eq 7, 3) := by decide +kernel
theorem dX4_takesBehindPart_60 : decode cX4_takesBehindPart 60 = .ok (.iconst 1, 1) := by decide +kernel
theorem dX4_takesBehindPart_61 : decode cX4_takesBehindPart 61 = .ok (.goto 4, 3) := by decide +kernel
theorem dX4_takesBehindPart_64 : decode cX4_takesBehindPart 64 = .ok (.iconst 0, 1) := by decide +kernel
theorem dX4_takesBehindPart_65 : decode cX4_takesBehindPart 65 = .ok (.ireturn, 1) := by decide +kernel
theorem dX4_begin_0 : decode cX4_begin 0 = .ok (.aload_n 0, 1) := by decide +kernel
theorem dX4_begin_1 : decode cX4_begin 1 = .ok (.getfield 31, 3) := by decide +kernel
theorem dX4_begin_4 : decode cX4_begin 4 = .ok (.iconst 1, 1) := by decide +kernel
theorem dX4_begin_5 : decode cX4_begin 5 = .ok (.iadd, 1) := by decide +kernel
theorem dX4_begin_6 : decode cX4_begin 6 = .ok (.aload_n 0, 1) := by decide +kernel
theorem dX4_begin_7 : decode cX4_begin 7 = .ok (.getfield 19, 3) := by decide +kernel
theorem dX4_begin_10 : decode cX4_begin 10 = .ok (.arraylength, 1) := by decide +kernel
theorem dX4_begin_11 : decode cX4_begin 11 = .ok (.if_icmp .ge 23, 3) := by decide +kernel
theorem dX4_begin_14 : decode cX4_begin 14 = .ok (.aload_n 0, 1) := by decide +kernel
theorem dX4_begin_15 : decode cX4_begin 15 = .ok (.dup, 1) := by decide +kernel
theorem dX4_begin_16 : decode cX4_begin 16 = .ok (.getfield 31, 3) := by decide +kernel
theorem dX4_begin_19 : decode cX4_begin 19 = .ok (.iconst 1, 1) := by decide +kernel
theorem dX4_begin_20 : decode cX4_begin 20 = .ok (.iadd, 1) := by decide +kernel
theorem dX4_begin_21 : decode cX4_begin 21 = .ok (.putfield 31, 3) := by decide +kernel
theorem dX4_begin_24 : decode cX4_begin 24 = .ok (.aload_n 0, 1) := by decide +kernel
theorem dX4_begin_25 : decode cX4_begin 25 = .ok (.getfield 19, 3) := by decide +kernel
theorem dX4_begin_28 : decode cX4_begin 28 = .ok (.aload_n 0, 1) := by decide +kernel
theorem dX4_begin_29 : decode cX4_begin 29 = .ok (.getfield 31, 3) := by decide +kernel
theorem dX4_begin_32 : decode cX4_begin 32 = .ok (.iload_n 1, 1) := by decide +kernel
theorem dX4_begin_33 : decode cX4_begin 33 = .ok (.bastore, 1) := by decide +kernel
theorem dX4_begin_34 : decode cX4_begin 34 = .ok (.aload_n 0, 1) := by decide +kernel
theorem dX4_begin_35 : decode cX4_begin 35 = .ok (.iconst 0, 1) := by decide +kernel
theorem dX4_begin_36 : decode cX4_begin 36 = .ok (.putfield 23, 3) := by decide +kernel
theorem dX4_begin_39 : decode cX4_begin 39 = .ok (.return_, 1) := by decide +kernel
theorem dX5_isSignAt_0 : decode cX5_isSignAt 0 = .ok (.iload_n 1, 1) := by decide +kernel
theorem dX5_isSignAt_1 : decode cX5_isSignAt 1 = .ok (.ifCond .lt 24, 3) := by decide +kernel
theorem dX5_isSignAt_4 : decode cX5_isSignAt 4 = .ok (.iload_n 1, 1) := by decide +kernel
theorem dX5_isSignAt_5 : decode cX5_isSignAt 5 = .ok (.aload_n 0, 1) := by decide +kernel
theorem dX5_isSignAt_6 : decode cX5_isSignAt 6 = .ok (.invokevirtual 7, 3) := by decide +kernel
theorem dX5_isSignAt_9 : decode cX5_isSignAt 9 = .ok (.if_icmp .ge 16, 3) := by decide +kernel
theorem dX5_isSignAt_12 : decode cX5_isSignAt 12 = .ok (.aload_n 0, 1) := by decide +kernel
theorem dX5_isSignAt_13 : decode cX5_isSignAt 13 = .ok (.iload_n 1, 1) := by decide +kernel
theorem dX5_isSignAt_14 : decode cX5_isSignAt 14 = .ok (.invokevirtual 13, 3) := by decide +kernel
theorem dX5_isSignAt_17 : decode cX5_isSignAt 17 = .ok (.iload_n 2, 1) := by decide +kernel
theorem dX5_isSignAt_18 : decode cX5_isSignAt 18 = .ok (.if_icmp .ne 7, 3) := by decide +kernel
theorem dX5_isSignAt_21 : decode cX5_isSignAt 21 = .ok (.iconst 1, 1) := by decide +kernel
theorem dX5_isSignAt_22 : decode cX5_isSignAt 22 = .ok (.goto 4, 3) := by decide +kernel
theorem dX5_isSignAt_25 : decode cX5_isSignAt 25 = .ok (.iconst 0, 1) := by decide +kernel
theorem dX5_isSignAt_26 : decode cX5_isSignAt 26 = .ok (.ireturn, 1) := by decide +kernel
theorem dX5_isCount_0 : decode cX5_isCount 0 = .ok (.aload_n 0, 1) := by decide +kernel
theorem dX5_isCount_1 : decode cX5_isCount 1 = .ok (.iload_n 1, 1) := by decide +kernel
theorem dX5_isCount_2 : decode cX5_isCount 2 = .ok (.invokevirtual 13, 3) := by decide +kernel
theorem dX5_isCount_5 : decode cX5_isCount 5 = .ok (.bipush 49, 2) := by decide +kernel
theorem dX5_isCount_7 : decode cX5_isCount 7 = .ok (.if_icmp .lt 29, 3) := by decide +kernel
theorem dX5_isCount_10 : decode cX5_isCount 10 = .ok (.aload_n 0, 1) := by decide +kernel
theorem dX5_isCount_11 : decode cX5_isCount 11 = .ok (.iload_n 1, 1) := by decide +kernel
theorem dX5_isCount_12 : decode cX5_isCount 12 = .ok (.invokevirtual 13, 3) := by decide +kernel
theorem dX5_isCount_15 : decode cX5_isCount 15 = .ok (.bipush 57, 2) := by decide +kernel
theorem dX5_isCount_17 : decode cX5_isCount 17 = .ok (.if_icmp .gt 19, 3) := by decide +kernel
theorem dX5_isCount_20 : decode cX5_isCount 20 = .ok (.aload_n 0, 1) := by decide +kernel
theorem dX5_isCount_21 : decode cX5_isCount 21 = .ok (.iload_n 1, 1) := by decide +kernel
theorem dX5_isCount_22 : decode cX5_isCount 22 = .ok (.iconst 1, 1) := by decide +kernel
theorem dX5_isCount_23 : decode cX5_isCount 23 = .ok (.iadd, 1) := by decide +kernel
theorem dX5_isCount_24 : decode cX5_isCount 24 = .ok (.bipush 111, 2) := by decide +kernel
theorem dX5_isCount_26 : decode cX5_isCount 26 = .ok (.invokestatic 17, 3) := by decide +kernel
theorem dX5_isCount_29 : decode cX5_isCount 29 = .ok (.ifCond .eq 7, 3) := by decide +kernel
theorem dX5_isCount_32 : decode cX5_isCount 32 = .ok (.iconst 1, 1) := by decide +kernel
theorem dX5_isCount_33 : decode cX5_isCount 33 = .ok (.goto 4, 3) := by decide +kernel
theorem dX5_isCount_36 : decode cX5_isCount 36 = .ok (.iconst 0, 1) := by decide +kernel
theorem dX5_isCount_37 : decode cX5_isCount 37 = .ok (.ireturn, 1) := by decide +kernel
theorem dX5_isMember_0 : decode cX5_isMember 0 = .ok (.aload_n 0, 1) := by decide +kernel
theorem dX5_isMember_1 : decode cX5_isMember 1 = .ok (.iload_n 1, 1) := by decide +kernel
theorem dX5_isMember_2 : decode cX5_isMember 2 = .ok (.invokevirtual 13, 3) := by decide +kernel
theorem dX5_isMember_5 : decode cX5_isMember 5 = .ok (.bipush 48, 2) := by decide +kernel
theorem dX5_isMember_7 : decode cX5_isMember 7 = .ok (.if_icmp .lt 25, 3) := by decide +kernel
theorem dX5_isMember_10 : decode cX5_isMember 10 = .ok (.aload_n 0, 1) := by decide +kernel
theorem dX5_isMember_11 : decode cX5_isMember 11 = .ok (.iload_n 1, 1) := by decide +kernel
theorem dX5_isMember_12 : decode cX5_isMember 12 = .ok (.invokevirtual 13, 3) := by decide +kernel
theorem dX5_isMember_15 : decode cX5_isMember 15 = .ok (.bipush 55, 2) := by decide +kernel
theorem dX5_isMember_17 : decode cX5_isMember 17 = .ok (.if_icmp .gt 15, 3) := by decide +kernel
theorem dX5_isMember_20 : decode cX5_isMember 20 = .ok (.aload_n 0, 1) := by decide +kernel
theorem dX5_isMember_21 : decode cX5_isMember 21 = .ok (.iload_n 1, 1) := by decide +kernel
theorem dX5_isMember_22 : decode cX5_isMember 22 = .ok (.invokestatic 23, 3) := by decide +kernel
theorem dX5_isMember_25 : decode cX5_isMember 25 = .ok (.ifCond .ne 7, 3) := by decide +kernel
theorem dX5_isMember_28 : decode cX5_isMember 28 = .ok (.iconst 1, 1) := by decide +kernel
theorem dX5_isMember_29 : decode cX5_isMember 29 = .ok (.goto 4, 3) := by decide +kernel
theorem dX5_isMember_32 : decode cX5_isMember 32 = .ok (.iconst 0, 1) := by decide +kernel
theorem dX5_isMember_33 : decode cX5_isMember 33 = .ok (.ireturn, 1) := by decide +kernel
theorem dX5_withoutNeedlessParentheses_0 : decode cX5_withoutNeedlessParentheses 0 = .ok (.aload_n 0, 1) := by decide +kernel
theorem dX5_withoutNeedlessParentheses_1 : decode cX5_withoutNeedlessParentheses 1 = .ok (.invokevirtual 7, 3) := by decide +kernel
theorem dX5_withoutNeedlessParentheses_4 : decode cX5_withoutNeedlessParentheses 4 = .ok (.newarray .boolean, 2) := by decide +kernel
theorem dX5_withoutNeedlessParentheses_6 : decode cX5_withoutNeedlessParentheses 6 = .ok (.astore_n 1, 1) := by decide +kernel
theorem dX5_withoutNeedlessParentheses_7 : decode cX5_withoutNeedlessParentheses 7 = .ok (.aload_n 0, 1) := by decide +kernel
theorem dX5_withoutNeedlessParentheses_8 : decode cX5_withoutNeedlessParentheses 8 = .ok (.invokevirtual 7, 3) := by decide +kernel
theorem dX5_withoutNeedlessParentheses_11 : decode cX5_withoutNeedlessParentheses 11 = .ok (.iconst 1, 1) := by decide +kernel
theorem dX5_withoutNeedlessParentheses_12 : decode cX5_withoutNeedlessParentheses 12 = .ok (.iadd, 1) := by decide +kernel
theorem dX5_withoutNeedlessParentheses_13 : decode cX5_withoutNeedlessParentheses 13 = .ok (.newarray .int, 2) := by decide +kernel
theorem dX5_withoutNeedlessParentheses_15 : decode cX5_withoutNeedlessParentheses 15 = .ok (.astore_n 2, 1) := by decide +kernel
theorem dX5_withoutNeedlessParentheses_16 : decode cX5_withoutNeedlessParentheses 16 = .ok (.aload_n 0, 1) := by decide +kernel
theorem dX5_withoutNeedlessParentheses_17 : decode cX5_withoutNeedlessParentheses 17 = .ok (.invokevirtual 7, 3) := by decide +kernel
theorem dX5_withoutNeedlessParentheses_20 : decode cX5_withoutNeedlessParentheses 20 = .ok (.iconst 1, 1) := by decide +kernel
theorem dX5_withoutNeedlessParentheses_21 : decode cX5_withoutNeedlessParentheses 21 = .ok (.iadd, 1) := by decide +kernel
theorem dX5_withoutNeedlessParentheses_22 : decode cX5_withoutNeedlessParentheses 22 = .ok (.newarray .boolean, 2) := by decide +kernel
theorem dX5_withoutNeedlessParentheses_24 : decode cX5_withoutNeedlessParentheses 24 = .ok (.astore_n 3, 1) := by decide +kernel
theorem dX5_withoutNeedlessParentheses_25 : decode cX5_withoutNeedlessParentheses 25 = .ok (.iconst 0, 1) := by decide +kernel
theorem dX5_withoutNeedlessParentheses_26 : decode cX5_withoutNeedlessParentheses 26 = .ok (.istore 4, 2) := by decide +kernel
theorem dX5_withoutNeedlessParentheses_28 : decode cX5_withoutNeedlessParentheses 28 = .ok (.iconst 0, 1) := by decide +kernel
theorem dX5_withoutNeedlessParentheses_29 : decode cX5_withoutNeedlessParentheses 29 = .ok (.istore 5, 2) := by decide +kernel
theorem dX5_withoutNeedlessParentheses_31 : decode cX5_withoutNeedlessParentheses 31 = .ok (.iload 5, 2) := by decide +kernel
theorem dX5_withoutNeedlessParentheses_33 : decode cX5_withoutNeedlessParentheses 33 = .ok (.aload_n 0, 1) := by decide +kernel
theorem dX5_withoutNeedlessParentheses_34 : decode cX5_withoutNeedlessParentheses 34 = .ok (.invokevirtual 7, 3) := by decide +kernel
theorem dX5_withoutNeedlessParentheses_37 : decode cX5_withoutNeedlessParentheses 37 = .ok (.if_icmp .ge 170, 3) := by decide +kernel
theorem dX5_withoutNeedlessParentheses_40 : decode cX5_withoutNeedlessParentheses 40 = .ok (.aload_n 0, 1) := by decide +kernel
theorem dX5_withoutNeedlessParentheses_41 : decode cX5_withoutNeedlessParentheses 41 = .ok (.iload 5, 2) := by decide +kernel
theorem dX5_withoutNeedlessParentheses_43 : decode cX5_withoutNeedlessParentheses 43 = .ok (.invokevirtual 13, 3) := by decide +kernel
theorem dX5_withoutNeedlessParentheses_46 : decode cX5_withoutNeedlessParentheses 46 = .ok (.istore 6, 2) := by decide +kernel
theorem dX5_withoutNeedlessParentheses_48 : decode cX5_withoutNeedlessParentheses 48 = .ok (.iload 6, 2) := by decide +kernel
theorem dX5_withoutNeedlessParentheses_50 : decode cX5_withoutNeedlessParentheses 50 = .ok (.bipush 40, 2) := by decide +kernel
theorem dX5_withoutNeedlessParentheses_52 : decode cX5_withoutNeedlessParentheses 52 = .ok (.if_icmp .ne 20, 3) := by decide +kernel
theorem dX5_withoutNeedlessParentheses_55 : decode cX5_withoutNeedlessParentheses 55 = .ok (.iinc 4 1, 3) := by decide +kernel
theorem dX5_withoutNeedlessParentheses_58 : decode cX5_withoutNeedlessParentheses 58 = .ok (.aload_n 2, 1) := by decide +kernel
theorem dX5_withoutNeedlessParentheses_59 : decode cX5_withoutNeedlessParentheses 59 = .ok (.iload 4, 2) := by decide +kernel
theorem dX5_withoutNeedlessParentheses_61 : decode cX5_withoutNeedlessParentheses 61 = .ok (.iload 5, 2) := by decide +kernel
theorem dX5_withoutNeedlessParentheses_63 : decode cX5_withoutNeedlessParentheses 63 = .ok (.iastore, 1) := by decide +kernel
theorem dX5_withoutNeedlessParentheses_64 : decode cX5_withoutNeedlessParentheses 64 = .ok (.aload_n 3, 1) := by decide +kernel
theorem dX5_withoutNeedlessParentheses_65 : decode cX5_withoutNeedlessParentheses 65 = .ok (.iload 4, 2) := by decide +kernel
theorem dX5_withoutNeedlessParentheses_67 : decode cX5_withoutNeedlessParentheses 67 = .ok (.iconst 0, 1) := by decide +kernel
theorem dX5_withoutNeedlessParentheses_68 : decode cX5_withoutNeedlessParentheses 68 = .ok (.bastore, 1) := by decide +kernel
theorem dX5_withoutNeedlessParentheses_69 : decode cX5_withoutNeedlessParentheses 69 = .ok (.goto 132, 3) := by decide +kernel
theorem dX5_withoutNeedlessParentheses_72 : decode cX5_withoutNeedlessParentheses 72 = .ok (.iload 6, 2) := by decide +kernel
theorem dX5_withoutNeedlessParentheses_74 : decode cX5_withoutNeedlessParentheses 74 = .ok (.bipush 124, 2) := by decide +kernel
theorem dX5_withoutNeedlessParentheses_76 : decode cX5_withoutNeedlessParentheses 76 = .ok (.if_icmp .ne 11, 3) := by decide +kernel
theorem dX5_withoutNeedlessParentheses_79 : decode cX5_withoutNeedlessParentheses 79 = .ok (.aload_n 3, 1) := by decide +kernel
theorem dX5_withoutNeedlessParentheses_80 : decode cX5_withoutNeedlessParentheses 80 = .ok (.iload 4, 2) := by decide +kernel
theorem dX5_withoutNeedlessParentheses_82 : decode cX5_withoutNeedlessParentheses 82 = .ok (.iconst 1, 1) := by decide +kernel
theorem dX5_withoutNeedlessParentheses_83 : decode cX5_withoutNeedlessParentheses 83 = .ok (.bastore, 1) := by decide +kernel
theorem dX5_withoutNeedlessParentheses_84 : decode cX5_withoutNeedlessParentheses 84 = .ok (.goto 117, 3) := by decide +kernel
theorem dX5_withoutNeedlessParentheses_87 : decode cX5_withoutNeedlessParentheses 87 = .ok (.iload 6, 2) := by decide +kernel
theorem dX5_withoutNeedlessParentheses_89 : decode cX5_withoutNeedlessParentheses 89 = .ok (.bipush 41, 2) := by decide +kernel
theorem dX5_withoutNeedlessParentheses_91 : decode cX5_withoutNeedlessParentheses 91 = .ok (.if_icmp .ne 110, 3) := by decide +kernel
theorem dX5_withoutNeedlessParentheses_94 : decode cX5_withoutNeedlessParentheses 94 = .ok (.iload 4, 2) := by decide +kernel
theorem dX5_withoutNeedlessParentheses_96 : decode cX5_withoutNeedlessParentheses 96 = .ok (.ifCond .le 105, 3) := by decide +kernel
theorem dX5_withoutNeedlessParentheses_99 : decode cX5_withoutNeedlessParentheses 99 = .ok (.aload_n 2, 1) := by decide +kernel
theorem dX5_withoutNeedlessParentheses_100 : decode cX5_withoutNeedlessParentheses 100 = .ok (.iload 4, 2) := by decide +kernel
theorem dX5_withoutNeedlessParentheses_102 : decode cX5_withoutNeedlessParentheses 102 = .ok (.iaload, 1) := by decide +kernel
theorem dX5_withoutNeedlessParentheses_103 : decode cX5_withoutNeedlessParentheses 103 = .ok (.istore 7, 2) := by decide +kernel
theorem dX5_withoutNeedlessParentheses_105 : decode cX5_withoutNeedlessParentheses 105 = .ok (.aload_n 3, 1) := by decide +kernel
theorem dX5_withoutNeedlessParentheses_106 : decode cX5_withoutNeedlessParentheses 106 = .ok (.iload 4, 2) := by decide +kernel
theorem dX5_withoutNeedlessParentheses_108 : decode cX5_withoutNeedlessParentheses 108 = .ok (.baload, 1) := by decide +kernel
theorem dX5_withoutNeedlessParentheses_109 : decode cX5_withoutNeedlessParentheses 109 = .ok (.istore 8, 2) := by decide +kernel
theorem dX5_withoutNeedlessParentheses_111 : decode cX5_withoutNeedlessParentheses 111 = .ok (.iinc 4 (-1), 3) := by decide +kernel
theorem dX5_withoutNeedlessParentheses_114 : decode cX5_withoutNeedlessParentheses 114 = .ok (.aload_n 0, 1) := by decide +kernel
theorem dX5_withoutNeedlessParentheses_115 : decode cX5_withoutNeedlessParentheses 115 = .ok (.iload 7, 2) := by decide +kernel
theorem dX5_withoutNeedlessParentheses_117 : decode cX5_withoutNeedlessParentheses 117 = .ok (.iconst 1, 1) := by decide +kernel
theorem dX5_withoutNeedlessParentheses_118 : decode cX5_withoutNeedlessParentheses 118 = .ok (.isub, 1) := by decide +kernel
theorem dX5_withoutNeedlessParentheses_119 : decode cX5_withoutNeedlessParentheses 119 = .ok (.bipush 38, 2) := by decide +kernel
theorem dX5_withoutNeedlessParentheses_121 : decode cX5_withoutNeedlessParentheses 121 = .ok (.invokestatic 17, 3) := by decide +kernel
theorem dX5_withoutNeedlessParentheses_124 : decode cX5_withoutNeedlessParentheses 124 = .ok (.ifCond .ne 16, 3) := by decide +kernel
theorem dX5_withoutNeedlessParentheses_127 : decode cX5_withoutNeedlessParentheses 127 = .ok (.aload_n 0, 1) := by decide +kernel
theorem dX5_withoutNeedlessParentheses_128 : decode cX5_withoutNeedlessParentheses 128 = .ok (.iload 5, 2) := by decide +kernel
theorem dX5_withoutNeedlessParentheses_130 : decode cX5_withoutNeedlessParentheses 130 = .ok (.iconst 1, 1) := by decide +kernel
theorem dX5_withoutNeedlessParentheses_131 : decode cX5_withoutNeedlessParentheses 131 = .ok (.iadd, 1) := by decide +kernel
theorem dX5_withoutNeedlessParentheses_132 : decode cX5_withoutNeedlessParentheses 132 = .ok (.bipush 38, 2) := by decide +kernel
theorem dX5_withoutNeedlessParentheses_134 : decode cX5_withoutNeedlessParentheses 134 = .ok (.invokestatic 17, 3) := by decide +kernel
theorem dX5_withoutNeedlessParentheses_137 : decode cX5_withoutNeedlessParentheses 137 = .ok (.ifCond .eq 7, 3) := by decide +kernel
theorem dX5_withoutNeedlessParentheses_140 : decode cX5_withoutNeedlessParentheses 140 = .ok (.iconst 1, 1) := by decide +kernel
theorem dX5_withoutNeedlessParentheses_141 : decode cX5_withoutNeedlessParentheses 141 = .ok (.goto 4, 3) := by decide +kernel
theorem dX5_withoutNeedlessParentheses_144 : decode cX5_withoutNeedlessParentheses 144 = .ok (.iconst 0, 1) := by decide +kernel
theorem dX5_withoutNeedlessParentheses_145 : decode cX5_withoutNeedlessParentheses 145 = .ok (.istore 9, 2) := by decide +kernel
theorem dX5_withoutNeedlessParentheses_147 : decode cX5_withoutNeedlessParentheses 147 = .ok (.aload_n 0, 1) := by decide +kernel
theorem dX5_withoutNeedlessParentheses_148 : decode cX5_withoutNeedlessParentheses 148 = .ok (.iload 7, 2) := by decide +kernel
theorem dX5_withoutNeedlessParentheses_150 : decode cX5_withoutNeedlessParentheses 150 = .ok (.iconst 1, 1) := by decide +kernel
theorem dX5_withoutNeedlessParentheses_151 : decode cX5_withoutNeedlessParentheses 151 = .ok (.isub, 1) := by decide +kernel
theorem dX5_withoutNeedlessParentheses_152 : decode cX5_withoutNeedlessParentheses 152 = .ok (.bipush 102, 2) := by decide +kernel
theorem dX5_withoutNeedlessParentheses_154 : decode cX5_withoutNeedlessParentheses 154 = .ok (.invokestatic 17, 3) := by decide +kernel
theorem dX5_withoutNeedlessParentheses_157 : decode cX5_withoutNeedlessParentheses 157 = .ok (.ifCond .ne 44, 3) := by decide +kernel
theorem dX5_withoutNeedlessParentheses_160 : decode cX5_withoutNeedlessParentheses 160 = .ok (.iload 8, 2) := by decide +kernel
theorem dX5_withoutNeedlessParentheses_162 : decode cX5_withoutNeedlessParentheses 162 = .ok (.ifCond .eq 8, 3) := by decide +kernel
theorem dX5_withoutNeedlessParentheses_165 : decode cX5_withoutNeedlessParentheses 165 = .ok (.iload 9, 2) := by decide +kernel
theorem dX5_withoutNeedlessParentheses_167 : decode cX5_withoutNeedlessParentheses 167 = .ok (.ifCond .ne 34, 3) := by decide +kernel
theorem dX5_withoutNeedlessParentheses_170 : decode cX5_withoutNeedlessParentheses 170 = .ok (.aload_n 1, 1) := by decide +kernel
theorem dX5_withoutNeedlessParentheses_171 : decode cX5_withoutNeedlessParentheses 171 = .ok (.iload 7, 2) := by decide +kernel
theorem dX5_withoutNeedlessParentheses_173 : decode cX5_withoutNeedlessParentheses 173 = .ok (.iconst 1, 1) := by decide +kernel
theorem dX5_withoutNeedlessParentheses_174 : decode cX5_withoutNeedlessParentheses 174 = .ok (.bastore, 1) := by decide +kernel
theorem dX5_withoutNeedlessParentheses_175 : decode cX5_withoutNeedlessParentheses 175 = .ok (.aload_n 1, 1) := by decide +kernel
theorem dX5_withoutNeedlessParentheses_176 : decode cX5_withoutNeedlessParentheses 176 = .ok (.iload 5, 2) := by decide +kernel
theorem dX5_withoutNeedlessParentheses_178 : decode cX5_withoutNeedlessParentheses 178 = .ok (.iconst 1, 1) := by decide +kernel
theorem dX5_withoutNeedlessParentheses_179 : decode cX5_withoutNeedlessParentheses 179 = .ok (.bastore, 1) := by decide +kernel
theorem dX5_withoutNeedlessParentheses_180 : decode cX5_withoutNeedlessParentheses 180 = .ok (.aload_n 3, 1) := by decide +kernel
theorem dX5_withoutNeedlessParentheses_181 : decode cX5_withoutNeedlessParentheses 181 = .ok (.iload 4, 2) := by decide +kernel
theorem dX5_withoutNeedlessParentheses_183 : decode cX5_withoutNeedlessParentheses 183 = .ok (.aload_n 3, 1) := by decide +kernel
theorem dX5_withoutNeedlessParentheses_184 : decode cX5_withoutNeedlessParentheses 184 = .ok (.iload 4, 2) := by decide +kernel
theorem dX5_withoutNeedlessParentheses_186 : decode cX5_withoutNeedlessParentheses 186 = .ok (.baload, 1) := by decide +kernel
theorem dX5_withoutNeedlessParentheses_187 : decode cX5_withoutNeedlessParentheses 187 = .ok (.ifCond .ne 8, 3) := by decide +kernel
theorem dX5_withoutNeedlessParentheses_190 : decode cX5_withoutNeedlessParentheses 190 = .ok (.iload 8, 2) := by decide +kernel
theorem dX5_withoutNeedlessParentheses_192 : decode cX5_withoutNeedlessParentheses 192 = .ok (.ifCond .eq 7, 3) := by decide +kernel
theorem dX5_withoutNeedlessParentheses_195 : decode cX5_withoutNeedlessParentheses 195 = .ok (.iconst 1, 1) := by decide +kernel
theorem dX5_withoutNeedlessParentheses_196 : decode cX5_withoutNeedlessParentheses 196 = .ok (.goto 4, 3) := by decide +kernel
theorem dX5_withoutNeedlessParentheses_199 : decode cX5_withoutNeedlessParentheses 199 = .ok (.iconst 0, 1) := by decide +kernel
theorem dX5_withoutNeedlessParentheses_200 : decode cX5_withoutNeedlessParentheses 200 = .ok (.bastore, 1) := by decide +kernel
theorem dX5_withoutNeedlessParentheses_201 : decode cX5_withoutNeedlessParentheses 201 = .ok (.iinc 5 1, 3) := by decide +kernel
theorem dX5_withoutNeedlessParentheses_204 : decode cX5_withoutNeedlessParentheses 204 = .ok (.goto (-173), 3) := by decide +kernel
theorem dX5_withoutNeedlessParentheses_207 : decode cX5_withoutNeedlessParentheses 207 = .ok (.aload_n 0, 1) := by decide +kernel
theorem dX5_withoutNeedlessParentheses_208 : decode cX5_withoutNeedlessParentheses 208 = .ok (.aload_n 1, 1) := by decide +kernel
theorem dX5_withoutNeedlessParentheses_209 : decode cX5_withoutNeedlessParentheses 209 = .ok (.invokestatic 27, 3) := by decide +kernel
theorem dX5_withoutNeedlessParentheses_212 : decode cX5_withoutNeedlessParentheses 212 = .ok (.areturn, 1) := by decide +kernel
theorem dX5_without_0 : decode cX5_without 0 = .ok (.new 31, 3) := by decide +kernel
theorem dX5_without_3 : decode cX5_without 3 = .ok (.dup, 1) := by decide +kernel
theorem dX5_without_4 : decode cX5_without 4 = .ok (.invokespecial 33, 3) := by decide +kernel
theorem dX5_without_7 : decode cX5_without 7 = .ok (.astore_n 2, 1) := by decide +kernel
theorem dX5_without_8 : decode cX5_without 8 = .ok (.iconst 0, 1) := by decide +kernel
theorem dX5_without_9 : decode cX5_without 9 = .ok (.istore_n 3, 1) := by decide +kernel
theorem dX5_without_10 : decode cX5_without 10 = .ok (.iload_n 3, 1) := by decide +kernel
theorem dX5_without_11 : decode cX5_without 11 = .ok (.aload_n 0, 1) := by decide +kernel
theorem dX5_without_12 : decode cX5_without 12 = .ok (.invokevirtual 7, 3) := by decide +kernel
theorem dX5_without_15 : decode cX5_without 15 = .ok (.if_icmp .ge 31, 3) := by decide +kernel
theorem dX5_without_18 : decode cX5_without 18 = .ok (.iload_n 3, 1) := by decide +kernel
theorem dX5_without_19 : decode cX5_without 19 = .ok (.aload_n 1, 1) := by decide +kernel
theorem dX5_without_20 : decode cX5_without 20 = .ok (.arraylength, 1) := by decide +kernel
theorem dX5_without_21 : decode cX5_without 21 = .ok (.if_icmp .ge 25, 3) := by decide +kernel
theorem dX5_without_24 : decode cX5_without 24 = .ok (.aload_n 1, 1) := by decide +kernel
theorem dX5_without_25 : decode cX5_without 25 = .ok (.iload_n 3, 1) := by decide +kernel
theorem dX5_without_26 : decode cX5_without 26 = .ok (.baload, 1) := by decide +kernel
theorem dX5_without_27 : decode cX5_without 27 = .ok (.ifCond .ne 13, 3) := by decide +kernel
theorem dX5_without_30 : decode cX5_without 30 = .ok (.aload_n 2, 1) := by decide +kernel
theorem dX5_without_31 : decode cX5_without 31 = .ok (.aload_n 0, 1) := by decide +kernel
theorem dX5_without_32 : decode cX5_without 32 = .ok (.iload_n 3, 1) := by decide +kernel
theorem dX5_without_33 : decode cX5_without 33 = .ok (.invokevirtual 13, 3) := by decide +kernel
theorem dX5_without_36 : decode cX5_without 36 = .ok (.invokevirtual 34, 3) := by decide +kernel
theorem dX5_without_39 : decode cX5_without 39 = .ok (.pop, 1) := by decide +kernel
theorem dX5_without_40 : decode cX5_without 40 = .ok (.iinc 3 1, 3) := by decide +kernel
theorem dX5_without_43 : decode cX5_without 43 = .ok (.goto (-33), 3) := by decide +kernel
theorem dX5_without_46 : decode cX5_without 46 = .ok (.aload_n 2, 1) := by decide +kernel
theorem dX5_without_47 : decode cX5_without 47 = .ok (.invokevirtual 38, 3) := by decide +kernel
theorem dX5_without_50 : decode cX5_without 50 = .ok (.areturn, 1) := by decide +kernel
theorem dX5_nestingOf_0 : decode cX5_nestingOf 0 = .ok (.aload_n 0, 1) := by decide +kernel
theorem dX5_nestingOf_1 : decode cX5_nestingOf 1 = .ok (.invokevirtual 7, 3) := by decide +kernel
theorem dX5_nestingOf_4 : decode cX5_nestingOf 4 = .ok (.iconst 1, 1) := by decide +kernel
theorem dX5_nestingOf_5 : decode cX5_nestingOf 5 = .ok (.iadd, 1) := by decide +kernel
theorem dX5_nestingOf_6 : decode cX5_nestingOf 6 = .ok (.newarray .int, 2) := by decide +kernel
theorem dX5_nestingOf_8 : decode cX5_nestingOf 8 = .ok (.astore_n 1, 1) := by decide +kernel
theorem dX5_nestingOf_9 : decode cX5_nestingOf 9 = .ok (.iconst 0, 1) := by decide +kernel
theorem dX5_nestingOf_10 : decode cX5_nestingOf 10 = .ok (.istore_n 2, 1) := by decide +kernel
theorem dX5_nestingOf_11 : decode cX5_nestingOf 11 = .ok (.iconst 0, 1) := by decide +kernel
theorem dX5_nestingOf_12 : decode cX5_nestingOf 12 = .ok (.istore_n 3, 1) := by decide +kernel
theorem dX5_nestingOf_13 : decode cX5_nestingOf 13 = .ok (.iconst 0, 1) := by decide +kernel
theorem dX5_nestingOf_14 : decode cX5_nestingOf 14 = .ok (.istore 4, 2) := by decide +kernel
theorem dX5_nestingOf_16 : decode cX5_nestingOf 16 = .ok (.iload 4, 2) := by decide +kernel
theorem dX5_nestingOf_18 : decode cX5_nestingOf 18 = .ok (.aload_n 0, 1) := by decide +kernel
theorem dX5_nestingOf_19 : decode cX5_nestingOf 19 = .ok (.invokevirtual 7, 3) := by decide +kernel
theorem dX5_nestingOf_22 : decode cX5_nestingOf 22 = .ok (.if_icmp .ge 79, 3) := by decide +kernel
theorem dX5_nestingOf_25 : decode cX5_nestingOf 25 = .ok (.aload_n 0, 1) := by decide +kernel
theorem dX5_nestingOf_26 : decode cX5_nestingOf 26 = .ok (.iload 4, 2) := by decide +kernel
theorem dX5_nestingOf_28 : decode cX5_nestingOf 28 = .ok (.invokevirtual 13, 3) := by decide +kernel
theorem dX5_nestingOf_31 : decode cX5_nestingOf 31 = .ok (.bipush 40, 2) := by decide +kernel
theorem dX5_nestingOf_33 : decode cX5_nestingOf 33 = .ok (.if_icmp .ne 44, 3) := by decide +kernel
theorem dX5_nestingOf_36 : decode cX5_nestingOf 36 = .ok (.aload_n 1, 1) := by decide +kernel
theorem dX5_nestingOf_37 : decode cX5_nestingOf 37 = .ok (.iload_n 2, 1) := by decide +kernel
theorem dX5_nestingOf_38 : decode cX5_nestingOf 38 = .ok (.iconst 1, 1) := by decide +kernel
theorem dX5_nestingOf_39 : decode cX5_nestingOf 39 = .ok (.iadd, 1) := by decide +kernel
theorem dX5_nestingOf_40 : decode cX5_nestingOf 40 = .ok (.aload_n 1, 1) := by decide +kernel
theorem dX5_nestingOf_41 : decode cX5_nestingOf 41 = .ok (.iload_n 2, 1) := by decide +kernel
theorem dX5_nestingOf_42 : decode cX5_nestingOf 42 = .ok (.iaload, 1) := by decide +kernel
theorem dX5_nestingOf_43 : decode cX5_nestingOf 43 = .ok (.aload_n 0, 1) := by decide +kernel
theorem dX5_nestingOf_44 : decode cX5_nestingOf 44 = .ok (.iload 4, 2) := by decide +kernel
theorem dX5_nestingOf_46 : decode cX5_nestingOf 46 = .ok (.iconst 1, 1) := by decide +kernel
theorem dX5_nestingOf_47 : decode cX5_nestingOf 47 = .ok (.isub, 1) := by decide +kernel
theorem dX5_nestingOf_48 : decode cX5_nestingOf 48 = .ok (.bipush 102, 2) := by decide +kernel
theorem dX5_nestingOf_50 : decode cX5_nestingOf 50 = .ok (.invokestatic 17, 3) := by decide +kernel
theorem dX5_nestingOf_53 : decode cX5_nestingOf 53 = .ok (.ifCond .eq 7, 3) := by decide +kernel
theorem dX5_nestingOf_56 : decode cX5_nestingOf 56 = .ok (.iconst 1, 1) := by decide +kernel
theorem dX5_nestingOf_57 : decode cX5_nestingOf 57 = .ok (.goto 4, 3) := by decide +kernel
theorem dX5_nestingOf_60 : decode cX5_nestingOf 60 = .ok (.iconst 0, 1) := by decide +kernel
theorem dX5_nestingOf_61 : decode cX5_nestingOf 61 = .ok (.iadd, 1) := by decide +kernel
theorem dX5_nestingOf_62 : decode cX5_nestingOf 62 = .ok (.iastore, 1) := by decide +kernel
theorem dX5_nestingOf_63 : decode cX5_nestingOf 63 = .ok (.iinc 2 1, 3) := by decide +kernel
theorem dX5_nestingOf_66 : decode cX5_nestingOf 66 = .ok (.iload_n 3, 1) := by decide +kernel
theorem dX5_nestingOf_67 : decode cX5_nestingOf 67 = .ok (.aload_n 1, 1) := by decide +kernel
theorem dX5_nestingOf_68 : decode cX5_nestingOf 68 = .ok (.iload_n 2, 1) := by decide +kernel
theorem dX5_nestingOf_69 : decode cX5_nestingOf 69 = .ok (.iaload, 1) := by decide +kernel
theorem dX5_nestingOf_70 : decode cX5_nestingOf 70 = .ok (.invokestatic 42, 3) := by decide +kernel
theorem dX5_nestingOf_73 : decode cX5_nestingOf 73 = .ok (.istore_n 3, 1) := by decide +kernel
theorem dX5_nestingOf_74 : decode cX5_nestingOf 74 = .ok (.goto 21, 3) := by decide +kernel
theorem dX5_nestingOf_77 : decode cX5_nestingOf 77 = .ok (.aload_n 0, 1) := by decide +kernel
theorem dX5_nestingOf_78 : decode cX5_nestingOf 78 = .ok (.iload 4, 2) := by decide +kernel
theorem dX5_nestingOf_80 : decode cX5_nestingOf 80 = .ok (.invokevirtual 13, 3) := by decide +kernel
theorem dX5_nestingOf_83 : decode cX5_nestingOf 83 = .ok (.bipush 41, 2) := by decide +kernel
theorem dX5_nestingOf_85 : decode cX5_nestingOf 85 = .ok (.if_icmp .ne 10, 3) := by decide +kernel
theorem dX5_nestingOf_88 : decode cX5_nestingOf 88 = .ok (.iload_n 2, 1) := by decide +kernel
theorem dX5_nestingOf_89 : decode cX5_nestingOf 89 = .ok (.ifCond .le 6, 3) := by decide +kernel
theorem dX5_nestingOf_92 : decode cX5_nestingOf 92 = .ok (.iinc 2 (-1), 3) := by decide +kernel
theorem dX5_nestingOf_95 : decode cX5_nestingOf 95 = .ok (.iinc 4 1, 3) := by decide +kernel
theorem dX5_nestingOf_98 : decode cX5_nestingOf 98 = .ok (.goto (-82), 3) := by decide +kernel
theorem dX5_nestingOf_101 : decode cX5_nestingOf 101 = .ok (.iload_n 3, 1) := by decide +kernel
theorem dX5_nestingOf_102 : decode cX5_nestingOf 102 = .ok (.ireturn, 1) := by decide +kernel
theorem dX6_init_0 : decode cX6_init 0 = .ok (.aload_n 0, 1) := by decide +kernel
theorem dX6_init_1 : decode cX6_init 1 = .ok (.invokespecial 3, 3) := by decide +kernel
theorem dX6_init_4 : decode cX6_init 4 = .ok (.aload_n 0, 1) := by decide +kernel
theorem dX6_init_5 : decode cX6_init 5 = .ok (.bipush 26, 2) := by decide +kernel
theorem dX6_init_7 : decode cX6_init 7 = .ok (.newarray .int, 2) := by decide +kernel
theorem dX6_init_9 : decode cX6_init 9 = .ok (.putfield 9, 3) := by decide +kernel
theorem dX6_init_12 : decode cX6_init 12 = .ok (.aload_n 0, 1) := by decide +kernel
theorem dX6_init_13 : decode cX6_init 13 = .ok (.bipush 26, 2) := by decide +kernel
theorem dX6_init_15 : decode cX6_init 15 = .ok (.newarray .int, 2) := by decide +kernel
theorem dX6_init_17 : decode cX6_init 17 = .ok (.putfield 15, 3) := by decide +kernel
theorem dX6_init_20 : decode cX6_init 20 = .ok (.return_, 1) := by decide +kernel
theorem dX6_begin_0 : decode cX6_begin 0 = .ok (.aload_n 0, 1) := by decide +kernel
theorem dX6_begin_1 : decode cX6_begin 1 = .ok (.iconst 0, 1) := by decide +kernel
theorem dX6_begin_2 : decode cX6_begin 2 = .ok (.putfield 18, 3) := by decide +kernel
theorem dX6_begin_5 : decode cX6_begin 5 = .ok (.aload_n 0, 1) := by decide +kernel
theorem dX6_begin_6 : decode cX6_begin 6 = .ok (.iconst 1, 1) := by decide +kernel
theorem dX6_begin_7 : decode cX6_begin 7 = .ok (.iload_n 1, 1) := by decide +kernel
theorem dX6_begin_8 : decode cX6_begin 8 = .ok (.invokevirtual 22, 3) := by decide +kernel
theorem dX6_begin_11 : decode cX6_begin 11 = .ok (.return_, 1) := by decide +kernel
theorem dX6_add_0 : decode cX6_add 0 = .ok (.aload_n 0, 1) := by decide +kernel
theorem dX6_add_1 : decode cX6_add 1 = .ok (.getfield 18, 3) := by decide +kernel
theorem dX6_add_4 : decode cX6_add 4 = .ok (.aload_n 0, 1) := by decide +kernel
theorem dX6_add_5 : decode cX6_add 5 = .ok (.getfield 9, 3) := by decide +kernel
theorem dX6_add_8 : decode cX6_add 8 = .ok (.arraylength, 1) := by decide +kernel
theorem dX6_add_9 : decode cX6_add 9 = .ok (.if_icmp .ge 33, 3) := by decide +kernel
theorem dX6_add_12 : decode cX6_add 12 = .ok (.aload_n 0, 1) := by decide +kernel
theorem dX6_add_13 : decode cX6_add 13 = .ok (.getfield 9, 3) := by decide +kernel
theorem dX6_add_16 : decode cX6_add 16 = .ok (.aload_n 0, 1) := by decide +kernel
theorem dX6_add_17 : decode cX6_add 17 = .ok (.getfield 18, 3) := by decide +kernel
theorem dX6_add_20 : decode cX6_add 20 = .ok (.iload_n 1, 1) := by decide +kernel
theorem dX6_add_21 : decode cX6_add 21 = .ok (.iastore, 1) := by decide +kernel
theorem dX6_add_22 : decode cX6_add 22 = .ok (.aload_n 0, 1) := by decide +kernel
theorem dX6_add_23 : decode cX6_add 23 = .ok (.getfield 15, 3) := by decide +kernel
theorem dX6_add_26 : decode cX6_add 26 = .ok (.aload_n 0, 1) := by decide +kernel
theorem dX6_add_27 : decode cX6_add 27 = .ok (.getfield 18, 3) := by decide +kernel
theorem dX6_add_30 : decode cX6_add 30 = .ok (.iload_n 2, 1) := by decide +kernel
theorem dX6_add_31 : decode cX6_add 31 = .ok (.iastore, 1) := by decide +kernel
theorem dX6_add_32 : decode cX6_add 32 = .ok (.aload_n 0, 1) := by decide +kernel
theorem dX6_add_33 : decode cX6_add 33 = .ok (.dup, 1) := by decide +kernel
theorem dX6_add_34 : decode cX6_add 34 = .ok (.getfield 18, 3) := by decide +kernel
theorem dX6_add_37 : decode cX6_add 37 = .ok (.iconst 1, 1) := by decide +kernel
theorem dX6_add_38 : decode cX6_add 38 = .ok (.iadd, 1) := by decide +kernel
theorem dX6_add_39 : decode cX6_add 39 = .ok (.putfield 18, 3) := by decide +kernel
theorem dX6_add_42 : decode cX6_add 42 = .ok (.return_, 1) := by decide +kernel
theorem dX7_init_0 : decode cX7_init 0 = .ok (.aload_n 0, 1) := by decide +kernel
theorem dX7_init_1 : decode cX7_init 1 = .ok (.invokespecial 3, 3) := by decide +kernel
theorem dX7_init_4 : decode cX7_init 4 = .ok (.aload_n 0, 1) := by decide +kernel
theorem dX7_init_5 : decode cX7_init 5 = .ok (.bipush 8, 2) := by decide +kernel
theorem dX7_init_7 : decode cX7_init 7 = .ok (.newarray .int, 2) := by decide +kernel
theorem dX7_init_9 : decode cX7_init 9 = .ok (.putfield 9, 3) := by decide +kernel
theorem dX7_init_12 : decode cX7_init 12 = .ok (.aload_n 0, 1) := by decide +kernel
theorem dX7_init_13 : decode cX7_init 13 = .ok (.bipush 25, 2) := by decide +kernel
theorem dX7_init_15 : decode cX7_init 15 = .ok (.newarray .int, 2) := by decide +kernel
theorem dX7_init_17 : decode cX7_init 17 = .ok (.putfield 15, 3) := by decide +kernel
theorem dX7_init_20 : decode cX7_init 20 = .ok (.aload_n 0, 1) := by decide +kernel
theorem dX7_init_21 : decode cX7_init 21 = .ok (.bipush 25, 2) := by decide +kernel
theorem dX7_init_23 : decode cX7_init 23 = .ok (.newarray .int, 2) := by decide +kernel
theorem dX7_init_25 : decode cX7_init 25 = .ok (.putfield 18, 3) := by decide +kernel
theorem dX7_init_28 : decode cX7_init 28 = .ok (.return_, 1) := by decide +kernel
theorem dX7_copyFrom_0 : decode cX7_copyFrom 0 = .ok (.aload_n 0, 1) := by decide +kernel
theorem dX7_copyFrom_1 : decode cX7_copyFrom 1 = .ok (.aload_n 1, 1) := by decide +kernel
theorem dX7_copyFrom_2 : decode cX7_copyFrom 2 = .ok (.getfield 21, 3) := by decide +kernel
theorem dX7_copyFrom_5 : decode cX7_copyFrom 5 = .ok (.putfield 21, 3) := by decide +kernel
